/** Promises 1 to 7 and 10: a new object, SLEEPERS and what is told of all. */
public final class SleepersTest {
    private static final Due DUE = new Due();
    private static final int NO_SUCH = -10001;

    public static void main(String[] args) {
        newObject();
        sleeper();
        of();
        urges();
        chain();
        owe();
        away();
        dip();
        row();
        told();
        DUE.end();
    }

    private static void newObject() {
        DUE.promise("1 a new object");
        SnoozeRow x = new SnoozeRow();
        for (int what = 0; what <= 6; what++) {
            DUE.is("count(" + what + ")", x.count(what), 0);
        }
        DUE.is("of(0, 0)", x.of(0, 0), NO_SUCH);
        DUE.is("told(0)", x.told(0), 0);
        DUE.is("told(1)", x.told(1), 40);
        for (int what = 2; what <= 5; what++) {
            DUE.is("told(" + what + ")", x.told(what), 0);
        }
        DUE.is("undo()", x.undo(), SnoozeRow.STATE);
        DUE.is("trace(0)", x.trace(0), SnoozeRow.NONE);
        for (int tape = 0; tape < 6; tape++) {
            DUE.is("item(" + tape + ", 0, 0)", x.item(tape, 0, 0), -11);
        }
        DUE.is("NONE", SnoozeRow.NONE, -1);
        DUE.is("BAD", SnoozeRow.BAD, -2);
        DUE.is("STATE", SnoozeRow.STATE, -3);
        DUE.is("FULL", SnoozeRow.FULL, -4);
        DUE.is("NO", SnoozeRow.NO, Long.MIN_VALUE);
        SnoozeRow other = new SnoozeRow();
        x.sleeper(0, 0);
        Due.street(x, "bear 3");
        DUE.is("count(0) of another", other.count(0), 0);
        DUE.is("told(1) of another", other.told(1), 40);
    }

    private static void sleeper() {
        DUE.promise("2 sleeper");
        SnoozeRow x = new SnoozeRow();
        DUE.is("sleeper(-1, 0)", x.sleeper(-1, 0), SnoozeRow.NONE);
        DUE.is("sleeper(7, 0)", x.sleeper(7, 0), SnoozeRow.NONE);
        DUE.is("sleeper(7, 10)", x.sleeper(7, 10), SnoozeRow.NONE);
        DUE.is("sleeper(0, -1)", x.sleeper(0, -1), SnoozeRow.BAD);
        DUE.is("sleeper(6, 10)", x.sleeper(6, 10), SnoozeRow.BAD);
        DUE.is("count(0)", x.count(0), 0);
        int[] kinds = {6, 0, 5, 1, 4, 2};
        for (int p = 0; p < 6; p++) {
            DUE.is("sleeper", x.sleeper(kinds[p], p == 0 ? 9 : p), p);
        }
        for (int p = 0; p < 6; p++) {
            DUE.is("of(" + p + ", 0)", x.of(p, 0), kinds[p]);
            DUE.is("of(" + p + ", 1)", x.of(p, 1), p == 0 ? 9 : p);
            DUE.is("of(" + p + ", 2)", x.of(p, 2), 0);
            DUE.is("of(" + p + ", 3)", x.of(p, 3), 0);
            DUE.is("of(" + p + ", 4)", x.of(p, 4), 0);
        }
        DUE.is("sleeper(3, 3) full", x.sleeper(3, 3), SnoozeRow.FULL);
        DUE.is("sleeper(3, 10) full", x.sleeper(3, 10), SnoozeRow.BAD);
        DUE.is("sleeper(9, 3) full", x.sleeper(9, 3), SnoozeRow.NONE);
        DUE.is("count(0)", x.count(0), 6);
    }

    private static void of() {
        DUE.promise("3 of");
        SnoozeRow x = Due.row(1, 4);
        DUE.is("of(-1, 0)", x.of(-1, 0), NO_SUCH);
        DUE.is("of(1, 0)", x.of(1, 0), NO_SUCH);
        DUE.is("of(0, -1)", x.of(0, -1), NO_SUCH);
        DUE.is("of(0, 9)", x.of(0, 9), NO_SUCH);
        DUE.is("of(min, max)", x.of(Integer.MIN_VALUE, Integer.MAX_VALUE), NO_SUCH);
        x.owe(0, 70);
        x.pass(1);
        DUE.is("of(0, 2)", x.of(0, 2), 40);
        DUE.is("of(0, 3)", x.of(0, 3), 30);
        DUE.is("of(0, 7)", x.of(0, 7), 100);
        DUE.is("of(0, 8)", x.of(0, 8), 0);
        x.see(0, 0, 100);
        DUE.is("of(0, 7) owed 100 was refused", x.of(0, 7), 100);
        x.see(0, 1, 5);
        DUE.is("of(0, 7)", x.of(0, 7), 1);
        DUE.is("of(0, 8)", x.of(0, 8), 35);
        x.see(0, 0, 36);
        DUE.is("of(0, 7)", x.of(0, 7), 0);
        DUE.is("of(0, 8)", x.of(0, 8), -5);
        DUE.is("of(0, 2) is as it was", x.of(0, 2), 40);
    }

    private static void urges() {
        DUE.promise("3 of: URGE");
        SnoozeRow x = Due.row(0, 3, 1, 3, 2, 3, 3, 3, 4, 3, 5, 3);
        int[] urges = {9, 12, 4, 9, 24, 4};
        for (int p = 0; p < 6; p++) {
            DUE.is("of(" + p + ", 5)", x.of(p, 5), urges[p]);
        }
        x.owe(4, 1);
        DUE.is("a LORD who owes", x.of(4, 5), 12);
        Due.street(x, "soon 30 v=3");
        int[] below = {-21, -18, -10, -21, -18, -10};
        for (int p = 0; p < 6; p++) {
            DUE.is("of(" + p + ", 5) below 0", x.of(p, 5), below[p]);
        }
        x.owe(4, 0);
        DUE.is("a LORD who owes nothing", x.of(4, 5), -36);
        x.away(4, true);
        DUE.is("a LORD who is AWAY", x.of(4, 5), -36);
        x.pass(6);
        DUE.is("a NURSE in the seventh MORNING", x.of(5, 5), 0);
        DUE.is("a CLERK then", x.of(2, 5), -10);
        for (int m = 7; m < 40; m++) {
            x.pass(1);
            DUE.is("a NURSE at MORNING " + m, x.of(5, 5), m % 7 == 6 ? 0 : -10);
        }
        boys();
        toldOnes();
    }

    private static void boys() {
        SnoozeRow x = Due.row(3, 0);
        x.owe(0, 29);
        x.pass(1);
        DUE.is("a BOY who lived 29", x.of(0, 5), 7);
        for (int i = 0; i < 2; i++) {
            x.owe(0, 30);
            x.pass(1);
        }
        DUE.is("a BOY who lived 89", x.of(0, 5), 1);
        x.owe(0, 30);
        x.pass(1);
        DUE.is("a BOY who lived 119", x.of(0, 5), 0);
        Due.street(x, "late 5 l=11");
        DUE.is("a BOY who lived 119, late", x.of(0, 5), 5);
    }

    private static void toldOnes() {
        SnoozeRow x = Due.row(6, 0, 3, 0);
        for (int part = 0; part < 4; part++) {
            x.row(0, part, part + 3);
        }
        for (int m = 0; m < 9; m++) {
            DUE.is("a TOLD one at MORNING " + m, x.of(0, 5), 9 + m % 4 + 3);
            x.pass(1);
        }
        x.owe(0, 40);
        x.pass(1);
        DUE.is("a TOLD one who lived 30", x.of(0, 5), 9 - 3 + 10 % 4 + 3);
    }

    private static void chain() {
        DUE.promise("3 of: CHAIN");
        SnoozeRow x = Due.row(0, 0, 0, 0, 0, 0, 0, 0);
        x.away(1, true);
        x.away(2, true);
        int[] chain = {3, -5, -5, -5};
        for (int p = 0; p < 4; p++) {
            DUE.is("of(" + p + ", 6)", x.of(p, 6), chain[p]);
        }
        x.away(3, true);
        DUE.is("of(0, 6) with all behind AWAY", x.of(0, 6), -5);
        x.away(1, false);
        DUE.is("of(0, 6)", x.of(0, 6), 1);
    }

    private static void owe() {
        DUE.promise("4 owe");
        SnoozeRow x = Due.row(0, 0, 0, 0);
        DUE.is("owe(0, 9999)", x.owe(0, 9999), 0);
        DUE.is("owe(0, 0)", x.owe(0, 0), 9999);
        DUE.is("owe(1, 5)", x.owe(1, 5), 0);
        DUE.is("owe(1, 10000)", x.owe(1, 10000), SnoozeRow.BAD);
        DUE.is("owe(1, -1)", x.owe(1, -1), SnoozeRow.BAD);
        DUE.is("owe(2, -1)", x.owe(2, -1), SnoozeRow.NONE);
        DUE.is("owe(-1, 0)", x.owe(-1, 0), SnoozeRow.NONE);
        DUE.is("of(1, 2)", x.of(1, 2), 5);
    }

    private static void away() {
        DUE.promise("5 away");
        SnoozeRow x = Due.row(0, 0, 0, 0, 0, 0);
        DUE.is("away(1, true)", x.away(1, true), 0);
        DUE.is("away(1, true)", x.away(1, true), 1);
        DUE.is("of(1, 4)", x.of(1, 4), 1);
        DUE.is("of(0, 4)", x.of(0, 4), 0);
        DUE.is("away(2, false)", x.away(2, false), 0);
        DUE.is("told(3)", x.told(3), 2);
        DUE.is("away(1, false)", x.away(1, false), 1);
        DUE.is("told(3)", x.told(3), 0);
        DUE.is("away(3, true)", x.away(3, true), SnoozeRow.NONE);
        DUE.is("away(-1, true)", x.away(-1, true), SnoozeRow.NONE);
    }

    private static void dip() {
        DUE.promise("6 dip");
        SnoozeRow x = new SnoozeRow();
        DUE.is("dip(9999)", x.dip(9999), 0);
        DUE.is("dip(10000)", x.dip(10000), SnoozeRow.BAD);
        DUE.is("dip(-1)", x.dip(-1), SnoozeRow.BAD);
        DUE.is("dip(7)", x.dip(7), 9999);
        DUE.is("told(2)", x.told(2), 7);
    }

    private static void row() {
        DUE.promise("7 row");
        SnoozeRow x = Due.row(6, 0, 3, 0, 6, 0);
        DUE.is("row(0, 3, 9)", x.row(0, 3, 9), 0);
        DUE.is("row(0, 3, 4)", x.row(0, 3, 4), 9);
        DUE.is("row(2, 3, 1)", x.row(2, 3, 1), 0);
        DUE.is("row(0, 3, 10)", x.row(0, 3, 10), SnoozeRow.BAD);
        DUE.is("row(0, 3, -1)", x.row(0, 3, -1), SnoozeRow.BAD);
        DUE.is("row(0, 4, -1)", x.row(0, 4, -1), SnoozeRow.NONE);
        DUE.is("row(0, -1, 0)", x.row(0, -1, 0), SnoozeRow.NONE);
        DUE.is("row(3, 0, 0)", x.row(3, 0, 0), SnoozeRow.NONE);
        DUE.is("row(-1, 0, 0)", x.row(-1, 0, 0), SnoozeRow.NONE);
        DUE.is("row(1, 0, 0)", x.row(1, 0, 0), SnoozeRow.STATE);
        DUE.is("row(1, 0, 10)", x.row(1, 0, 10), SnoozeRow.BAD);
        DUE.is("row(0, 3, 0)", x.row(0, 3, 0), 4);
    }

    private static void told() {
        DUE.promise("10 told");
        SnoozeRow x = Due.row(2, 9, 2, 9, 2, 9);
        x.owe(0, 9999);
        x.owe(1, 100);
        x.away(1, true);
        x.pass(1);
        // 9999: 30 done, 40 borne, 9929 come to 2 with 4: 30 done, 40 borne, 9863 and 4 go deep
        DUE.is("told(0)", x.told(0), 1);
        DUE.is("told(1)", x.told(1), 40);
        DUE.is("told(2)", x.told(2), 9867);
        DUE.is("told(3)", x.told(3), 2);
        DUE.is("told(4)", x.told(4), 180);
        DUE.is("told(5)", x.told(5), 60);
        Due.street(x, "bear 12;late 1 p=0;bear 7;soon 1 p=0");
        DUE.is("told(1)", x.told(1), 7);
        Due.street(x, "late 1 p=0");
        DUE.is("told(1) without a bear", x.told(1), 40);
        x.away(0, true);
        x.away(2, true);
        DUE.is("told(3)", x.told(3), 7);
        DUE.is("told(6)", x.told(6), SnoozeRow.NONE);
        DUE.is("told(-1)", x.told(-1), SnoozeRow.NONE);
    }
}
