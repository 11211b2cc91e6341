/** Boundary cases of URGE, SNOOZE and MORNINGS: the Terms' part on them, promise 11. */
final class MorningEdges {
    private static final int BAD = SnoozeRow.BAD, STATE = SnoozeRow.STATE;
    private static final int MIN = Integer.MIN_VALUE, MAX = Integer.MAX_VALUE;

    static void all(Edges e) {
        urges(e);
        e.says("Terms", "SNOOZE: URGE, 0 at least, 60 at most.", MorningEdges::snooze);
        e.says("Terms", "OWED of the first one behind it (by number) who is not AWAY is that more", MorningEdges::comesToTheNext);
        e.says("Terms", "without one DEEP is", MorningEdges::comesToDeep);
        e.says("Terms", "(each 9999 at most)", MorningEdges::comesAtMost);
        e.says("Terms", "A MORNING goes, one behind the other by number", MorningEdges::byNumber);
        e.says("Terms", "each SLEEPER not AWAY", MorningEdges::notAway);
        e.says("Terms", "by how all is then", MorningEdges::asAllIsThen);
        e.says("Terms", "then it does what it OWES, 30 at most: OWED is that less", MorningEdges::doesThirty);
        e.says("Terms", "LIVED that more (9999 at most)", MorningEdges::livedAtMost);
        e.says("Terms", "then, if OWED is more than BEAR, what is more COMES on to the next, and OWED is BEAR.",
            MorningEdges::bears);
        e.says("Terms", "MORNING is 1 more.", MorningEdges::oneMore);
        e.says("11", "n MORNINGS (0 .. 60) go: MORNING.", MorningEdges::passes);
        e.says("11", "BAD;", MorningEdges::passBad);
        e.says("11", "STATE: it would be above 9999.", MorningEdges::passState);
        e.says("11", "BAD; STATE: it would be above 9999.", MorningEdges::passRefusesInOrder);
    }

    private static void urges(Edges e) {
        e.says("Terms", "URGE of a SLEEPER (may be below 0): SLEEPER: SUM.", MorningEdges::urgeOfSleeper);
        e.says("Terms", "LODGER: SUM and v.", MorningEdges::urgeOfLodger);
        e.says("Terms", "CLERK: the half (cut toward 0) of SUM.", MorningEdges::urgeOfClerk);
        e.says("Terms", "BOY: SUM, less LIVED by 10 (cut; 9 at most).", MorningEdges::urgeOfBoy);
        e.says("Terms", "LORD: as LODGER; twice that, if OWED is 0.", MorningEdges::urgeOfLord);
        e.says("Terms", "NURSE: as CLERK; 0, if MORNING modulo 7 is 6.", MorningEdges::urgeOfNurse);
        e.says("Terms", "TOLD: as BOY, and its ROW (four numbers 0 .. 9; 0 at first)", MorningEdges::urgeOfTold);
        e.says("Terms", "at MORNING modulo 4 more.", MorningEdges::rowModuloFour);
    }

    /** One of a KIND, with v, whose SUM is that. */
    private static SnoozeRow withSum(int kind, int v, int sum) {
        SnoozeRow x = Due.row(kind, v);
        Due.street(x, sum < 9 ? "soon " + (9 - sum) + " p=0" : "late " + (sum - 9) + " p=0");
        return x;
    }

    private static void urge(Edges e, int kind, int v, int sum, int urge) {
        e.is("of(0, 5) of KIND " + kind + ", v " + v + ", SUM " + sum, withSum(kind, v, sum).of(0, 5), urge);
    }

    private static void urgeOfSleeper(Edges e) {
        int[] sums = {-90, -1, 0, 1, 9, 108};
        for (int sum : sums) {
            urge(e, 0, 9, sum, sum);
        }
    }

    private static void urgeOfLodger(Edges e) {
        urge(e, 1, 0, 9, 9);
        urge(e, 1, 9, 9, 18);
        urge(e, 1, 9, -9, 0);
        urge(e, 1, 9, -10, -1);
        urge(e, 1, 9, 108, 117);
    }

    private static void urgeOfClerk(Edges e) {
        int[][] halves = {{-90, -45}, {-3, -1}, {-2, -1}, {-1, 0}, {0, 0}, {1, 0}, {2, 1}, {3, 1}, {9, 4}, {108, 54}};
        for (int[] half : halves) {
            urge(e, 2, 9, half[0], half[1]);
        }
    }

    private static void urgeOfBoy(Edges e) {
        SnoozeRow x = Due.row(3, 9);
        int[][] livedAndUrge = {{0, 9}, {9, 9}, {10, 8}, {19, 8}, {20, 7}, {49, 5}, {79, 2}, {80, 1}, {89, 1}, {90, 0},
            {99, 0}, {100, 0}, {110, 0}};
        for (int[] want : livedAndUrge) {
            x.owe(0, want[0] - x.of(0, 3));
            x.pass(1);
            e.is("of(0, 3)", x.of(0, 3), want[0]);
            e.is("of(0, 5), LIVED " + want[0], x.of(0, 5), want[1]);
        }
        Due.street(x, "soon 10 p=0");
        e.is("of(0, 5), LIVED 110, SUM -1", x.of(0, 5), -10);
    }

    private static void urgeOfLord(Edges e) {
        SnoozeRow x = Due.row(4, 9);
        e.is("of(0, 5), OWED 0", x.of(0, 5), 36);
        x.owe(0, 1);
        e.is("of(0, 5), OWED 1", x.of(0, 5), 18);
        x.owe(0, 9999);
        e.is("of(0, 5), OWED 9999", x.of(0, 5), 18);
        urge(e, 4, 9, -90, -162);
        urge(e, 4, 9, -9, 0);
        urge(e, 4, 0, 9, 18);
    }

    private static void urgeOfNurse(Edges e) {
        SnoozeRow x = Due.row(5, 9);
        SnoozeRow below = withSum(5, 9, -9);
        for (int m = 0; m <= 28; m++) {
            e.is("of(0, 5) at " + m, x.of(0, 5), m % 7 == 6 ? 0 : 4);
            e.is("of(0, 5) at " + m + ", SUM -9", below.of(0, 5), m % 7 == 6 ? 0 : -4);
            x.pass(1);
            below.pass(1);
        }
    }

    private static void urgeOfTold(Edges e) {
        SnoozeRow x = Due.row(6, 9);
        for (int m = 0; m < 4; m++) {
            e.is("of(0, 5) at first, at " + m, x.of(0, 5), 9);
            x.pass(1);
        }
        x.row(0, 0, 9);
        e.is("of(0, 5) with 9", x.of(0, 5), 18);
        x.row(0, 0, 0);
        e.is("of(0, 5) with 0", x.of(0, 5), 9);
        x.owe(0, 30);
        x.pass(1);
        e.is("of(0, 5), LIVED 30", x.of(0, 5), 6);
        for (int i = 0; i < 3; i++) {
            x.owe(0, 30);
            x.pass(1);
        }
        e.is("told(0)", x.told(0), 8);
        e.is("of(0, 5), LIVED 120", x.of(0, 5), 0);
        x.row(0, 0, 9);
        e.is("of(0, 5), LIVED 120, with 9", x.of(0, 5), 9);
    }

    private static void rowModuloFour(Edges e) {
        SnoozeRow x = Due.row(6, 9);
        x.row(0, 0, 1);
        x.row(0, 3, 7);
        int[] more = {1, 0, 0, 7};
        for (int m = 0; m <= 12; m++) {
            e.is("of(0, 5) at " + m, x.of(0, 5), 9 + more[m % 4]);
            x.pass(1);
        }
    }

    // ---- a MORNING

    private static void snooze(Edges e) {
        int[][] sumAndSnooze = {{-90, 0}, {-1, 0}, {0, 0}, {1, 1}, {59, 59}, {60, 60}, {61, 60}, {108, 60}};
        for (int[] want : sumAndSnooze) {
            SnoozeRow x = withSum(0, 0, want[0]);
            x.dip(100);
            x.pass(1);
            e.is("told(2), URGE " + want[0], x.told(2), 100 + want[1]);
        }
    }

    private static void comesToTheNext(Edges e) {
        SnoozeRow x = Due.row(0, 0, 0, 0, 0, 0, 0, 0);
        Due.street(x, "late 30 p=1;soon 9 !p=1");
        x.pass(1);
        // 39 of 1 alone come to 2, who does 30 of them
        e.is("of(0, 3), ahead of it", x.of(0, 3), 0);
        e.is("of(1, 3), itself", x.of(1, 3), 0);
        e.is("of(2, 3), the next", x.of(2, 3), 30);
        e.is("of(2, 2), the next", x.of(2, 2), 9);
        e.is("of(3, 3), behind the next", x.of(3, 3), 0);
        x.away(2, true);
        x.pass(1);
        e.is("of(2, 2), AWAY", x.of(2, 2), 9);
        e.is("of(3, 3), the first one not AWAY", x.of(3, 3), 30);
        e.is("told(2)", x.told(2), 0);
    }

    private static void comesToDeep(Edges e) {
        SnoozeRow x = Due.row(0, 0, 0, 0, 0, 0);
        x.away(1, true);
        x.away(2, true);
        x.pass(1);
        e.is("told(2), all behind it AWAY", x.told(2), 9);
        e.is("told(4)", x.told(4), 0);
        e.is("told(5)", x.told(5), 0);
        x.away(2, false);
        x.away(0, true);
        x.pass(1);
        e.is("told(2), the last one", x.told(2), 18);
        e.is("told(5)", x.told(5), 0);
    }

    private static void comesAtMost(Edges e) {
        int[] owed = {9989, 9990, 9991, 9999};
        for (int n : owed) {
            SnoozeRow x = Due.row(0, 0, 0, 0);
            x.owe(1, n);
            x.pass(1);
            // of what it OWES then 30 are done, 40 borne; its own 9 come on, too
            e.is("told(2), OWED " + n + " and 9", x.told(2), Math.min(n + 9, 9999) - 70 + 9);
        }
        int[] deep = {9989, 9990, 9991, 9999};
        for (int n : deep) {
            SnoozeRow x = Due.row(0, 0);
            x.dip(n);
            x.pass(1);
            e.is("told(2), " + n + " and 9", x.told(2), Math.min(n + 9, 9999));
        }
        SnoozeRow x = Due.row(0, 0, 0, 0);
        x.owe(0, 9999);
        x.owe(1, 9999);
        x.dip(9990);
        x.pass(1);
        e.is("told(2), all at their most", x.told(2), 9999);
        e.is("of(1, 2)", x.of(1, 2), 40);
    }

    private static void byNumber(Edges e) {
        SnoozeRow x = Due.row(0, 0, 0, 0, 0, 0);
        x.owe(0, 99);
        x.pass(1);
        // 29 and 9 come from 0 to 1, who does 30 of them in the same MORNING, and 9 of 1 to 2
        e.is("of(0, 2)", x.of(0, 2), 40);
        e.is("of(1, 2)", x.of(1, 2), 8);
        e.is("of(1, 3)", x.of(1, 3), 30);
        e.is("of(2, 3)", x.of(2, 3), 9);
        // what a later one hands on never comes to an earlier one
        SnoozeRow y = Due.row(0, 0, 0, 0);
        y.owe(1, 9999);
        y.pass(1);
        e.is("of(0, 2)", y.of(0, 2), 0);
    }

    private static void notAway(Edges e) {
        SnoozeRow x = Due.row(0, 0, 0, 0);
        x.owe(0, 99);
        x.owe(1, 99);
        x.away(0, true);
        x.away(1, true);
        e.is("pass(60), all AWAY", x.pass(60), 60);
        e.is("told(2)", x.told(2), 0);
        e.is("told(4)", x.told(4), 198);
        e.is("told(5)", x.told(5), 0);
        x.away(1, false);
        x.pass(1);
        e.is("of(0, 2), AWAY", x.of(0, 2), 99);
        e.is("of(1, 2)", x.of(1, 2), 40);
        SnoozeRow none = new SnoozeRow();
        e.is("pass(60) of none", none.pass(60), 60);
        e.is("told(2) of none", none.told(2), 0);
    }

    private static void asAllIsThen(Edges e) {
        SnoozeRow x = Due.row(0, 0, 4, 5);
        x.pass(1);
        // the LORD OWES 9 by the time it is its turn, and so does not snooze twice as long
        e.is("told(2)", x.told(2), 14);
        SnoozeRow y = Due.row(0, 0, 0, 0);
        Due.street(y, "late 20 p=1&o=1");
        y.owe(1, 1);
        y.pass(1);
        e.is("told(2), o is 1 by then", y.told(2), 29);
    }

    private static void doesThirty(Edges e) {
        int[][] owedAndLeft = {{0, 0}, {1, 0}, {29, 0}, {30, 0}, {31, 1}, {60, 30}};
        for (int[] want : owedAndLeft) {
            SnoozeRow x = Due.row(0, 0);
            x.owe(0, want[0]);
            x.pass(1);
            e.is("of(0, 2), OWED " + want[0], x.of(0, 2), want[1]);
            e.is("of(0, 3), OWED " + want[0], x.of(0, 3), want[0] - want[1]);
        }
    }

    private static void livedAtMost(Edges e) {
        SnoozeRow x = Due.row(0, 0, 0, 0);
        Due.street(x, "late 60 p=0");
        for (int i = 0; i < 5; i++) {
            x.pass(60);
        }
        x.pass(33);
        e.is("of(1, 3)", x.of(1, 3), 9990);
        x.away(0, true);
        x.owe(1, 8);
        x.pass(1);
        e.is("of(1, 3), 8 more", x.of(1, 3), 9998);
        x.owe(1, 1);
        x.pass(1);
        e.is("of(1, 3), 1 more", x.of(1, 3), 9999);
        x.owe(1, 50);
        x.pass(1);
        e.is("of(1, 3), 30 more", x.of(1, 3), 9999);
        // what is done is OWED no more all the same
        e.is("of(1, 2)", x.of(1, 2), 20);
    }

    private static void bears(Edges e) {
        int[] bears = {0, 1, 40, 99};
        for (int bear : bears) {
            for (int more = -1; more <= 2; more++) {
                int left = Math.max(0, bear + more);
                SnoozeRow x = Due.row(0, 0);
                Due.street(x, "soon 9 p=0;bear " + bear);
                x.owe(0, left + 30);
                x.pass(1);
                e.is("of(0, 2), BEAR " + bear + ", " + left + " left", x.of(0, 2), Math.min(bear, left));
                e.is("told(2), BEAR " + bear + ", " + left + " left", x.told(2), Math.max(0, left - bear));
            }
        }
        SnoozeRow x = Due.row(0, 0);
        x.owe(0, 70);
        x.pass(1);
        e.is("told(2), 40 left without a STREET", x.told(2), 9);
        SnoozeRow y = Due.row(0, 0);
        y.owe(0, 71);
        y.pass(1);
        e.is("told(2), 41 left without a STREET", y.told(2), 10);
    }

    private static void oneMore(Edges e) {
        SnoozeRow x = new SnoozeRow();
        e.is("pass(1)", x.pass(1), 1);
        e.is("told(0)", x.told(0), 1);
        e.is("pass(1)", x.pass(1), 2);
    }

    // ---- promise 11

    private static void passes(Edges e) {
        SnoozeRow x = Due.row(0, 0);
        e.is("pass(0)", x.pass(0), 0);
        e.is("told(2)", x.told(2), 0);
        e.is("pass(1)", x.pass(1), 1);
        e.is("told(2)", x.told(2), 9);
        e.is("pass(60)", x.pass(60), 61);
        e.is("told(2)", x.told(2), 61 * 9);
    }

    private static void passBad(Edges e) {
        SnoozeRow x = Due.row(0, 0);
        int[] bad = {-1, 61, MIN, MAX};
        for (int n : bad) {
            e.is("pass(" + n + ")", x.pass(n), BAD);
        }
        e.is("told(0)", x.told(0), 0);
        e.is("told(2)", x.told(2), 0);
    }

    /** A row at MORNING 9960. */
    private static SnoozeRow late() {
        SnoozeRow x = Due.row(0, 0);
        for (int i = 0; i < 166; i++) {
            x.pass(60);
        }
        return x;
    }

    private static void passState(Edges e) {
        SnoozeRow x = late();
        x.dip(0);
        e.is("pass(60)", x.pass(60), STATE);
        e.is("pass(40)", x.pass(40), STATE);
        e.is("told(0)", x.told(0), 9960);
        e.is("told(2)", x.told(2), 0);
        e.is("pass(39)", x.pass(39), 9999);
        e.is("pass(1)", x.pass(1), STATE);
        e.is("pass(0)", x.pass(0), 9999);
        e.is("told(2)", x.told(2), 39 * 9);
    }

    private static void passRefusesInOrder(Edges e) {
        SnoozeRow x = late();
        e.is("pass(61) at 9960", x.pass(61), BAD);
        e.is("pass(max) at 9960", x.pass(MAX), BAD);
        e.is("pass(-1) at 9960", x.pass(-1), BAD);
    }
}
