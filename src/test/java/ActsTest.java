/** Promises 26 to 28: ACTS, THE TRACE, and what a SLEEPER is taken for. */
public final class ActsTest {
    private static final Due DUE = new Due();

    public static void main(String[] args) {
        act();
        noAct();
        wrapping();
        taken();
        DUE.end();
    }

    /** One of a KIND, the third, with v 3, acts with 5. */
    private static void act(int kind, int act, int answer, int... bodies) {
        SnoozeRow x = Due.row(0, 0, 0, 0, kind, 3);
        String call = "act(2, " + act + ", 5) of KIND " + kind;
        DUE.promise("26 act");
        DUE.is(call, x.act(2, act, 5), answer);
        DUE.promise("27 trace");
        DUE.is(call + ", count(6)", x.count(6), bodies.length);
        for (int i = 0; i < bodies.length; i++) {
            DUE.is(call + ", trace(" + i + ")", x.trace(i), bodies[i]);
        }
        DUE.is(call + ", trace behind", x.trace(bodies.length), SnoozeRow.NONE);
        DUE.is(call + ", trace(-1)", x.trace(-1), SnoozeRow.NONE);
        DUE.is(call + ", trace(max)", x.trace(Integer.MAX_VALUE), SnoozeRow.NONE);
    }

    private static void act() {
        act(0, 0, 7, 10);
        act(0, 1, 4, 11, 10);
        act(0, 2, 8, 12, 11, 10);
        act(1, 0, 7, 10);
        act(1, 1, 4 ^ 6, 20, 11, 10);
        act(1, 2, 4, 12, 20, 11, 10);
        act(2, 0, 17, 30, 10);
        act(2, 1, 14, 11, 30, 10);
        act(2, 2, 28, 12, 11, 30, 10);
        act(3, 0, 7, 10);
        act(3, 1, 4, 11, 10);
        act(3, 2, 8 + 0, 40, 12, 11, 10, 11, 10);
        act(4, 0, -7, 50, 10);
        act(4, 1, -13, 51, 20, 11, 50, 10);
        act(4, 2, -26, 12, 51, 20, 11, 50, 10);
        act(5, 0, 17, 30, 10);
        act(5, 1, 14, 11, 30, 10);
        act(5, 2, 16, 60, 12, 11, 30, 10);
        act(6, 0, 4, 71, 10);
        act(6, 1, 5, 70, 11, 71, 10, 10);
        act(6, 2, 11, 40, 12, 70, 11, 71, 10, 10, 70, 11, 71, 10, 10);
    }

    private static void noAct() {
        DUE.promise("26 act: no such SLEEPER, act");
        int[][] none = {{-1, 0}, {1, 0}, {0, -1}, {0, 3}, {1, 3}};
        for (int[] n : none) {
            SnoozeRow x = Due.row(0, 0);
            DUE.is("act(0, 2, 5)", x.act(0, 2, 5), 10);
            DUE.is("act(" + n[0] + ", " + n[1] + ", 5)", x.act(n[0], n[1], 5), 0);
            DUE.is("count(6)", x.count(6), 0);
            DUE.is("trace(0)", x.trace(0), SnoozeRow.NONE);
        }
        SnoozeRow x = Due.row(0, 0);
        x.act(0, 2, 5);
        x.act(0, 0, 5);
        DUE.is("count(6) is of the latest", x.count(6), 1);
        DUE.is("trace(0) is of the latest", x.trace(0), 10);
        DUE.is("trace(1) is of the latest", x.trace(1), SnoozeRow.NONE);
        x.away(0, true);
        DUE.is("act(0, 0, 5) of one AWAY", x.act(0, 0, 5), 5);
    }

    private static void wrapping() {
        DUE.promise("26 act: wrapping");
        SnoozeRow x = Due.row(2, 9, 0, 9, 4, 9);
        int max = Integer.MAX_VALUE;
        int min = Integer.MIN_VALUE;
        DUE.is("act(1, 0, max)", x.act(1, 0, max), min);
        DUE.is("act(0, 0, max)", x.act(0, 0, max), max - 2);
        DUE.is("act(1, 1, min)", x.act(1, 1, min), max - 7);
        DUE.is("act(1, 2, 2^30)", x.act(1, 2, 1 << 30), min - 16);
        DUE.is("act(2, 0, max - 1)", x.act(2, 0, max - 1), min);
    }

    private static void taken() {
        DUE.promise("28 taken");
        int[] above = {-1, 0, 0, 0, 1, 2, 3};
        for (int kind = 0; kind < 7; kind++) {
            SnoozeRow x = Due.row(0, 0, kind, 0);
            for (int k = 0; k < 7; k++) {
                boolean under = kind == k || above[kind] == k || k == 0;
                DUE.is("taken(1, " + k + ") of KIND " + kind, x.taken(1, k), under ? kind : -12);
            }
            DUE.is("taken(1, 7)", x.taken(1, 7), SnoozeRow.BAD);
            DUE.is("taken(1, -1)", x.taken(1, -1), SnoozeRow.BAD);
            DUE.is("taken(2, 7)", x.taken(2, 7), SnoozeRow.BAD);
            DUE.is("taken(2, 0)", x.taken(2, 0), -11);
            DUE.is("taken(-1, 6)", x.taken(-1, 6), -11);
        }
    }
}
