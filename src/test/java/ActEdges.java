/** Boundary cases of ACTS, THE TRACE and KINDS: the Terms' part on them, promises 26 to 28. */
final class ActEdges {
    private static final int NONE = SnoozeRow.NONE, BAD = SnoozeRow.BAD;
    private static final int NOTHING = -11, CAST = -12;
    private static final int MIN = Integer.MIN_VALUE, MAX = Integer.MAX_VALUE;

    static void all(Edges e) {
        e.says("Terms", "ACTS of a SLEEPER with x (wrapping)", ActEdges::wrapping);
        e.says("Terms", "the body of its KIND, or, if that has none, of the next KIND above that has one", ActEdges::nextAbove);
        e.says("Terms", "super.rolls(..): so from the KIND above the body's on", ActEdges::superFromAboveTheBody);
        e.says("Terms", "all that stands in a body is done from the left on", ActEdges::fromTheLeft);
        e.says("Terms", "THE TRACE: the numbers of the bodies that ran in the latest act(), as they began; the first 20 are kept.",
            ActEdges::longestTrace);
        e.says("26", "An ACT (0 rolls, 1 yawns, 2 tells) of a SLEEPER with x.", ActEdges::acts);
        e.says("26", "0, and no TRACE then: no such SLEEPER", ActEdges::noSuchSleeper);
        e.says("26", "no such SLEEPER, act.", ActEdges::noSuchAct);
        e.says("27", "THE TRACE's i-th body.", ActEdges::ithBody);
        e.says("27", "NONE.", ActEdges::traceNone);
        e.says("28", "A SLEEPER taken for one of KIND k (0 .. 6), or one under that: its KIND.", ActEdges::taken);
        e.says("28", "BAD: k", ActEdges::takenBad);
        e.says("28", "NOTHING: no such SLEEPER", ActEdges::takenNothing);
        e.says("28", "CAST.", ActEdges::takenCast);
        e.says("28", "BAD: k; NOTHING: no such SLEEPER; CAST.", ActEdges::takenRefusesInOrder);
    }

    /** One of a KIND, the third, with v 3. */
    private static SnoozeRow third(int kind) {
        return Due.row(0, 0, 0, 0, kind, 3);
    }

    private static void bodies(Edges e, SnoozeRow x, int... numbers) {
        e.is("count(6)", x.count(6), numbers.length);
        for (int i = 0; i < numbers.length; i++) {
            e.is("trace(" + i + ")", x.trace(i), numbers[i]);
        }
        e.is("trace(" + numbers.length + ")", x.trace(numbers.length), NONE);
    }

    private static void wrapping(Edges e) {
        SnoozeRow x = Due.row(2, 9, 0, 9, 4, 9, 3, 0, 5, 3, 6, 0);
        e.is("act(1, 0, max): x + i", x.act(1, 0, MAX), MIN);
        e.is("act(1, 1, min): .. - v", x.act(1, 1, MIN), MAX - 7);
        e.is("act(1, 2, 2^30): .. * 2", x.act(1, 2, 1 << 30), MAX - 15);
        e.is("act(0, 0, max): x * 3", x.act(0, 0, MAX), MAX - 2);
        e.is("act(2, 0, max - 1): -..", x.act(2, 0, MAX - 1), MIN);
        // x + 1 is min, -(min + 2) is max - 1, less 9, ^ 6
        e.is("act(2, 1, max): x + 1", x.act(2, 1, MAX), MAX - 12);
        // (2^30 - 4 + 3) * 2 is max - 1, and 4
        e.is("act(3, 2, 2^30 - 4): .. + ..", x.act(3, 2, (1 << 30) - 4), MIN + 2);
        // min - 4 is max - 3; * 3 is max - 11 by wrapping; + 4, - 3, * 2
        e.is("act(4, 2, min): x - i", x.act(4, 2, MIN), 2 * (MAX - 10));
        // max + 5 is min + 4, and 7
        e.is("act(5, 1, max): .. + ..", x.act(5, 1, MAX), MIN + 11);
    }

    private static void nextAbove(Edges e) {
        SnoozeRow lord = third(4);
        lord.act(2, 2, 5);
        bodies(e, lord, 12, 51, 20, 11, 50, 10);
        SnoozeRow nurse = third(5);
        nurse.act(2, 0, 5);
        bodies(e, nurse, 30, 10);
        nurse.act(2, 1, 5);
        bodies(e, nurse, 11, 30, 10);
        e.is("act(2, 2, 5): ((5 - 2) * 3 + 2 - 3) * 2", nurse.act(2, 2, 5), 16);
        bodies(e, nurse, 60, 12, 11, 30, 10);
        SnoozeRow told = third(6);
        told.act(2, 2, 5);
        e.is("trace(0), the BOY's", told.trace(0), 40);
        SnoozeRow boy = third(3);
        boy.act(2, 0, 5);
        bodies(e, boy, 10);
    }

    private static void superFromAboveTheBody(Edges e) {
        // the BOY has no rolls nor yawns: the SLEEPER's; within that, rolls is the TOLD one's again
        SnoozeRow told = third(6);
        e.is("act(2, 0, 5): (5 + 2) ^ 3", told.act(2, 0, 5), 4);
        bodies(e, told, 71, 10);
        e.is("act(2, 1, 5): 4 - 3, and 2 + 2", told.act(2, 1, 5), 5);
        bodies(e, told, 70, 11, 71, 10, 10);
        // above the LORD's yawns is the LODGER's; above that the SLEEPER's
        SnoozeRow lord = third(4);
        e.is("act(2, 1, 5): (-8 - 3) ^ 6", lord.act(2, 1, 5), -13);
        bodies(e, lord, 51, 20, 11, 50, 10);
    }

    private static void fromTheLeft(Edges e) {
        SnoozeRow boy = third(3);
        e.is("act(2, 2, 5): (5 + 2 - 3) * 2, and 1 + 2 - 3", boy.act(2, 2, 5), 8);
        bodies(e, boy, 40, 12, 11, 10, 11, 10);
        SnoozeRow told = third(6);
        told.act(2, 1, 5);
        // 70 begins ahead of what stands in it; rolls(2) comes last
        bodies(e, told, 70, 11, 71, 10, 10);
    }

    /** No act runs more than these 12 bodies, so that all of them are kept. */
    private static void longestTrace(Edges e) {
        SnoozeRow x = third(6);
        e.is("act(2, 2, 5)", x.act(2, 2, 5), 11);
        bodies(e, x, 40, 12, 70, 11, 71, 10, 10, 70, 11, 71, 10, 10);
        x.act(0, 0, 5);
        bodies(e, x, 10);
        for (int kind = 0; kind <= 6; kind++) {
            for (int act = 0; act <= 2; act++) {
                SnoozeRow y = third(kind);
                y.act(2, act, 5);
                e.is("count(6) of KIND " + kind + ", act " + act, y.count(6) <= 20 ? 1 : 0, 1);
                for (int i = 0; i < y.count(6); i++) {
                    e.is("trace(" + i + ") is kept", y.trace(i) >= 10 ? 1 : 0, 1);
                }
            }
        }
    }

    // ---- promises 26 and 27

    private static void acts(Edges e) {
        SnoozeRow x = third(0);
        e.is("act(2, 0, 5)", x.act(2, 0, 5), 7);
        e.is("act(2, 1, 5)", x.act(2, 1, 5), 4);
        e.is("act(2, 2, 5)", x.act(2, 2, 5), 8);
        e.is("act(2, 0, -2), that is 0", x.act(2, 0, -2), 0);
        bodies(e, x, 10);
        e.is("act(2, 0, -9)", x.act(2, 0, -9), -7);
        x.away(2, true);
        e.is("act(2, 0, 5) of one AWAY", x.act(2, 0, 5), 7);
    }

    private static void noSuchSleeper(Edges e) {
        int[] none = {-1, 3, 6, MIN, MAX};
        for (int p : none) {
            SnoozeRow x = third(6);
            x.act(2, 2, 5);
            e.is("act(" + p + ", 0, 5)", x.act(p, 0, 5), 0);
            bodies(e, x);
        }
        e.is("act(0, 0, 5) of none", new SnoozeRow().act(0, 0, 5), 0);
    }

    private static void noSuchAct(Edges e) {
        int[] none = {-1, 3, MIN, MAX};
        for (int act : none) {
            SnoozeRow x = third(6);
            x.act(2, 2, 5);
            e.is("act(2, " + act + ", 5)", x.act(2, act, 5), 0);
            bodies(e, x);
        }
    }

    private static void ithBody(Edges e) {
        SnoozeRow x = third(0);
        x.act(2, 2, 5);
        e.is("trace(0), the first", x.trace(0), 12);
        e.is("trace(1)", x.trace(1), 11);
        e.is("trace(2), the last", x.trace(2), 10);
    }

    private static void traceNone(Edges e) {
        SnoozeRow x = third(6);
        e.is("trace(0) ahead of any act()", x.trace(0), NONE);
        x.act(2, 2, 5);
        int[] none = {-1, 12, 19, 20, 21, MIN, MAX};
        for (int i : none) {
            e.is("trace(" + i + ")", x.trace(i), NONE);
        }
        x.act(2, 0, 5);
        // what an earlier act() left is not of the latest
        e.is("trace(2)", x.trace(2), NONE);
    }

    // ---- promise 28

    private static void taken(Edges e) {
        int[][] linesUp = {{0}, {1, 0}, {2, 0}, {3, 0}, {4, 1, 0}, {5, 2, 0}, {6, 3, 0}};
        for (int[] up : linesUp) {
            for (int k : up) {
                e.is("taken(2, " + k + ") of KIND " + up[0], third(up[0]).taken(2, k), up[0]);
            }
        }
    }

    private static void takenBad(Edges e) {
        int[] bad = {-1, 7, MIN, MAX};
        for (int k : bad) {
            e.is("taken(2, " + k + ")", third(6).taken(2, k), BAD);
        }
    }

    private static void takenNothing(Edges e) {
        int[] none = {-1, 3, 6, MIN, MAX};
        for (int p : none) {
            e.is("taken(" + p + ", 0)", third(0).taken(p, 0), NOTHING);
        }
        e.is("taken(0, 6) of none", new SnoozeRow().taken(0, 6), NOTHING);
    }

    private static void takenCast(Edges e) {
        int[][] others = {{1, 2, 3, 4, 5, 6}, {2, 3, 4, 5, 6}, {1, 3, 4, 5, 6}, {1, 2, 4, 5, 6}, {2, 3, 5, 6}, {1, 3, 4, 6},
            {1, 2, 4, 5}};
        for (int kind = 0; kind <= 6; kind++) {
            for (int k : others[kind]) {
                e.is("taken(2, " + k + ") of KIND " + kind, third(kind).taken(2, k), CAST);
            }
        }
    }

    private static void takenRefusesInOrder(Edges e) {
        e.is("taken(3, 7)", third(0).taken(3, 7), BAD);
        e.is("taken(-1, -1)", third(0).taken(-1, -1), BAD);
        e.is("taken(3, 6)", third(0).taken(3, 6), NOTHING);
    }
}
