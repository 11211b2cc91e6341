/** Boundary cases of SEEN, OWES, CAN, ODDS and MEAN: the Terms' part on them, promises 15 to 18. */
final class SeenEdges {
    private static final int NONE = SnoozeRow.NONE, BAD = SnoozeRow.BAD, FULL = SnoozeRow.FULL;
    private static final int MIN = Integer.MIN_VALUE, MAX = Integer.MAX_VALUE;
    private static final long NO = SnoozeRow.NO;

    static void all(Edges e) {
        e.says("Terms", "SEEN told by hand: one, MORNINGS n (0 .. 12)", SeenEdges::seenMornings);
        e.says("Terms", "n (0 .. 12) from now", SeenEdges::seenFromNow);
        e.says("Terms", "OWED then (0 .. 99;", SeenEdges::seenOwed);
        e.says("Terms", "5 rows at most)", SeenEdges::seenRows);
        e.says("Terms", "OWES of one: how many numbers (0 .. 99) there are by which, were that its OWED now, all of SEEN is so",
            SeenEdges::owes);
        e.says("Terms", "all of SEEN is so; the least (-5: none).", SeenEdges::owesLeast);
        e.says("Terms", "CAN of one: how many numbers v (0 .. 9) likewise", SeenEdges::canMany);
        e.says("Terms", "likewise; the least (-5: none).", SeenEdges::canLeast);
        odds(e);
        e.says("Terms", "MEAN of n MORNINGS (0 .. 60)", SeenEdges::meanMornings);
        e.says("Terms", "OWED of all behind n, together, by how many they are", SeenEdges::meanOfAll);
        e.says("Terms", "by how many they are: a fraction in lowest terms", SeenEdges::meanLowest);
        e.says("Terms", "(NO: there are none)", SeenEdges::meanOfNone);
        promises(e);
    }

    private static void odds(Edges e) {
        e.says("Terms", "ODDS of n MORNINGS (0 .. 20)", SeenEdges::oddsMornings);
        e.says("Terms", "and q (0 .. 9999)", SeenEdges::oddsDepths);
        e.says("Terms", "if one not AWAY, each alike likely, is AWAY from now on", SeenEdges::oddsOfOneAway);
        e.says("Terms", "how likely DEEP is q or more behind n", SeenEdges::oddsOrMore);
        e.says("Terms", "q or more behind n: a fraction in lowest terms", SeenEdges::oddsLowest);
        e.says("Terms", "(NO: all are AWAY, or there are none)", SeenEdges::oddsOfNone);
    }

    private static void promises(Edges e) {
        e.says("15", "What is SEEN comes: how many there are", SeenEdges::sees);
        e.says("15", "(sleeper -1: none then, 0)", SeenEdges::seesNoneThen);
        e.says("15", "NONE;", SeenEdges::seeNone);
        e.says("15", "BAD: n,", SeenEdges::seeBadMornings);
        e.says("15", "BAD: n, owed;", SeenEdges::seeBadOwed);
        e.says("15", "FULL: 5.", SeenEdges::seeFull);
        e.says("15", "NONE; BAD: n, owed; FULL: 5.", SeenEdges::seeRefusesInOrder);
        e.says("16", "CAN: what 0 how many, 1 the least; -5.", SeenEdges::canWhat);
        e.says("16", "NONE.", SeenEdges::canNone);
        e.says("17", "part 0 above, 1 below the line.", SeenEdges::oddsParts);
        e.says("17", "NO: n,", SeenEdges::oddsNoMornings);
        e.says("17", "n, q,", SeenEdges::oddsNoDepth);
        e.says("17", "q, part, as told.", SeenEdges::oddsNoPart);
        e.says("18", "MEAN; part likewise.", SeenEdges::meanParts);
        e.says("18", "NO.", SeenEdges::meanNo);
    }

    private static void owes(Edges e, SnoozeRow x, int p, int many, int least) {
        e.is("of(" + p + ", 7)", x.of(p, 7), many);
        e.is("of(" + p + ", 8)", x.of(p, 8), least);
    }

    private static void can(Edges e, SnoozeRow x, int p, int many, int least) {
        e.is("can(" + p + ", 0)", x.can(p, 0), many);
        e.is("can(" + p + ", 1)", x.can(p, 1), least);
    }

    private static void odds(Edges e, SnoozeRow x, int n, int q, long above, long below) {
        e.is("odds(" + n + ", " + q + ", 0)", x.odds(n, q, 0), above);
        e.is("odds(" + n + ", " + q + ", 1)", x.odds(n, q, 1), below);
    }

    private static void mean(Edges e, SnoozeRow x, int n, long above, long below) {
        e.is("mean(" + n + ", 0)", x.mean(n, 0), above);
        e.is("mean(" + n + ", 1)", x.mean(n, 1), below);
    }

    // ---- SEEN

    /** One to whom 31 come each MORNING: it OWES 1 more behind each. */
    private static SnoozeRow oneMoreEachMorning() {
        SnoozeRow x = Due.row(0, 0, 0, 0);
        Due.street(x, "late 22 p=0;soon 9 p=1;bear 99");
        return x;
    }

    private static void seenMornings(Edges e) {
        int[] when = {0, 1, 11, 12};
        for (int n : when) {
            SnoozeRow x = oneMoreEachMorning();
            e.is("see(1, " + n + ", 50)", x.see(1, n, 50), 1);
            owes(e, x, 1, 1, 50 - n);
        }
        SnoozeRow x = oneMoreEachMorning();
        x.see(1, 12, 12);
        // in the first MORNING, 0 and 31 are 1 more than it can do
        owes(e, x, 1, 1, 0);
    }

    private static void seenFromNow(Edges e) {
        SnoozeRow x = oneMoreEachMorning();
        x.see(1, 3, 50);
        owes(e, x, 1, 1, 47);
        x.pass(2);
        owes(e, x, 1, 1, 47);
    }

    private static void seenOwed(Edges e) {
        SnoozeRow x = Due.row(0, 0, 0, 0);
        x.see(0, 0, 0);
        owes(e, x, 0, 1, 0);
        x.see(-1, 0, 0);
        x.see(0, 0, 99);
        owes(e, x, 0, 1, 99);
        // of one who OWES more than can be SEEN
        x.owe(0, 9999);
        x.see(-1, 0, 0);
        x.see(0, 0, 99);
        owes(e, x, 1, 0, -5);
    }

    private static void seenRows(Edges e) {
        SnoozeRow x = Due.row(0, 0, 0, 0, 0, 0, 0, 0, 0, 0, 0, 0);
        for (int p = 0; p < 5; p++) {
            e.is("see(" + p + ", 0, 0)", x.see(p, 0, 0), p + 1);
        }
        e.is("see(5, 0, 0)", x.see(5, 0, 0), FULL);
        // each of the five rows counts, the first and the last of them, too; the sixth does not
        x.owe(5, 1);
        owes(e, x, 5, 100, 0);
        for (int p = 0; p < 5; p++) {
            x.owe(p, 1);
            owes(e, x, 5, 0, -5);
            x.owe(p, 0);
        }
    }

    // ---- OWES and CAN

    private static void owes(Edges e) {
        SnoozeRow x = Due.row(0, 0, 0, 0);
        x.owe(0, 9999);
        e.is("of(0, 7), nothing SEEN", x.of(0, 7), 100);
        x.see(0, 1, 40);
        // 70 .. 99, less 30, are 40 or more, of which it bears 40
        e.is("of(0, 7)", x.of(0, 7), 30);
        x.see(0, 2, 10);
        e.is("of(0, 7), two SEEN", x.of(0, 7), 30);
        x.see(0, 0, 99);
        e.is("of(0, 7), 99 alone", x.of(0, 7), 1);
        x.see(0, 3, 1);
        e.is("of(0, 7), one of four not so", x.of(0, 7), 0);
        SnoozeRow y = Due.row(0, 0, 0, 0);
        y.see(0, 1, 0);
        // 0 .. 30
        e.is("of(0, 7)", y.of(0, 7), 31);
        e.is("of(1, 7), what another OWED is so by any", y.of(1, 7), 100);
        y.owe(0, 31);
        e.is("of(1, 7), what another OWED is so by none", y.of(1, 7), 0);
        e.is("of(0, 2)", y.of(0, 2), 31);
    }

    private static void owesLeast(Edges e) {
        SnoozeRow x = Due.row(0, 0);
        e.is("of(0, 8), nothing SEEN", x.of(0, 8), 0);
        x.see(0, 1, 40);
        e.is("of(0, 8)", x.of(0, 8), 70);
        x.see(0, 0, 99);
        e.is("of(0, 8)", x.of(0, 8), 99);
        x.see(0, 0, 98);
        e.is("of(0, 8)", x.of(0, 8), -5);
    }

    /** A LODGER whose 9 and v come to one who OWES that. */
    private static SnoozeRow lodger(int owed, int seen) {
        SnoozeRow x = Due.row(1, 4, 0, 0);
        x.owe(1, owed);
        x.see(1, 1, seen);
        return x;
    }

    private static void canMany(Edges e) {
        SnoozeRow none = Due.row(1, 4);
        e.is("can(0, 0), nothing SEEN", none.can(0, 0), 10);
        e.is("can(0, 0), up to 30 by each", lodger(12, 0).can(0, 0), 10);
        e.is("can(0, 0), 31 by 9", lodger(13, 0).can(0, 0), 9);
        e.is("can(0, 0), by 9 alone", lodger(13, 1).can(0, 0), 1);
        e.is("can(0, 0), by 0 alone", lodger(22, 1).can(0, 0), 1);
        e.is("can(0, 0), by none", lodger(12, 1).can(0, 0), 0);
        e.is("can(1, 0), v of another", lodger(17, 0).can(1, 0), 10);
        SnoozeRow two = lodger(13, 1);
        two.see(1, 0, 12);
        e.is("can(0, 0), one of two not so", two.can(0, 0), 0);
        e.is("of(0, 1)", two.of(0, 1), 4);
    }

    private static void canLeast(Edges e) {
        e.is("can(0, 1), nothing SEEN", Due.row(1, 4).can(0, 1), 0);
        e.is("can(0, 1), by 9 alone", lodger(13, 1).can(0, 1), 9);
        e.is("can(0, 1), by 0 alone", lodger(22, 1).can(0, 1), 0);
        e.is("can(0, 1), by none", lodger(12, 1).can(0, 1), -5);
    }

    // ---- ODDS and MEAN

    private static void oddsMornings(Edges e) {
        SnoozeRow x = Due.row(0, 0, 0, 0);
        odds(e, x, 0, 0, 1, 1);
        odds(e, x, 0, 1, 0, 1);
        odds(e, x, 1, 9, 1, 1);
        odds(e, x, 1, 10, 0, 1);
        odds(e, x, 20, 180, 1, 1);
        odds(e, x, 20, 181, 0, 1);
    }

    private static void oddsDepths(Edges e) {
        SnoozeRow x = Due.row(0, 0, 0, 0);
        odds(e, x, 1, 0, 1, 1);
        odds(e, x, 1, 9999, 0, 1);
        x.dip(9990);
        odds(e, x, 1, 9999, 1, 1);
    }

    private static void oddsOfOneAway(Edges e) {
        SnoozeRow x = Due.row(0, 0, 0, 0, 1, 9);
        // 18 of the last, or 9 if it is AWAY
        odds(e, x, 1, 10, 2, 3);
        odds(e, x, 20, 181, 2, 3);
        x.away(0, true);
        odds(e, x, 1, 10, 1, 2);
        x.away(1, true);
        // it alone is not AWAY: then there is none
        odds(e, x, 1, 1, 0, 1);
        odds(e, x, 1, 0, 1, 1);
        e.is("told(3)", x.told(3), 3);
    }

    private static void oddsOrMore(Edges e) {
        SnoozeRow x = Due.row(0, 0, 1, 9);
        odds(e, x, 1, 9, 1, 1);
        odds(e, x, 1, 10, 1, 2);
        odds(e, x, 1, 18, 1, 2);
        odds(e, x, 1, 19, 0, 1);
    }

    /** Six, of whom the one that does not matter hand all on: it is q or more unless one who owes 60 is AWAY. */
    private static SnoozeRow handsOn(int many) {
        SnoozeRow x = Due.row(0, 0, 0, 0, 0, 0, 0, 0, 0, 0, 0, 0);
        Due.street(x, "soon 9 p<9;bear 0");
        for (int p = 0; p < 6; p++) {
            x.owe(p, p < many ? 60 : 30);
        }
        return x;
    }

    private static void oddsLowest(Edges e) {
        // each of those who OWE 60 brings 30 more than is done; all of them are there unless one of them is AWAY
        for (int many = 0; many <= 6; many++) {
            SnoozeRow x = handsOn(many);
            long[] above = {1, 5, 2, 1, 1, 1, 0};
            long[] below = {1, 6, 3, 2, 3, 6, 1};
            odds(e, x, 1, 30 * many, above[many], below[many]);
        }
    }

    private static void oddsOfNone(Edges e) {
        odds(e, new SnoozeRow(), 0, 0, NO, NO);
        SnoozeRow x = Due.row(0, 0, 0, 0);
        x.away(0, true);
        odds(e, x, 0, 0, 1, 1);
        x.away(1, true);
        odds(e, x, 0, 0, NO, NO);
        odds(e, x, 20, 9999, NO, NO);
    }

    private static void meanMornings(Edges e) {
        SnoozeRow x = oneMoreEachMorning();
        mean(e, x, 0, 0, 1);
        mean(e, x, 1, 1, 2);
        mean(e, x, 59, 59, 2);
        mean(e, x, 60, 30, 1);
    }

    private static void meanOfAll(Edges e) {
        SnoozeRow x = Due.row(0, 0, 0, 0, 0, 0);
        x.owe(2, 10);
        mean(e, x, 0, 10, 3);
        x.away(2, true);
        mean(e, x, 0, 10, 3);
        mean(e, x, 60, 10, 3);
        SnoozeRow six = Due.row(0, 0, 0, 0, 0, 0, 0, 0, 0, 0, 0, 0);
        for (int p = 0; p < 6; p++) {
            six.owe(p, 9999);
        }
        mean(e, six, 0, 9999, 1);
    }

    private static void meanLowest(Edges e) {
        SnoozeRow x = Due.row(0, 0, 0, 0, 0, 0, 0, 0, 0, 0, 0, 0);
        int[][] owedAboveBelow = {{0, 0, 1}, {1, 1, 6}, {2, 1, 3}, {3, 1, 2}, {4, 2, 3}, {5, 5, 6}, {6, 1, 1}, {15, 5, 2},
            {16, 8, 3}, {9998, 4999, 3}, {9999, 3333, 2}};
        for (int[] want : owedAboveBelow) {
            x.owe(2, want[0]);
            mean(e, x, 0, want[1], want[2]);
        }
        SnoozeRow four = Due.row(0, 0, 0, 0, 0, 0, 0, 0);
        four.owe(0, 6);
        mean(e, four, 0, 3, 2);
        SnoozeRow five = Due.row(0, 0, 0, 0, 0, 0, 0, 0, 0, 0);
        five.owe(0, 9995);
        mean(e, five, 0, 1999, 1);
    }

    private static void meanOfNone(Edges e) {
        mean(e, new SnoozeRow(), 0, NO, NO);
        mean(e, new SnoozeRow(), 60, NO, NO);
        SnoozeRow x = Due.row(0, 0);
        x.away(0, true);
        mean(e, x, 0, 0, 1);
    }

    // ---- promises 15 to 18

    private static void sees(Edges e) {
        SnoozeRow x = Due.row(0, 0, 0, 0);
        e.is("see(0, 0, 0)", x.see(0, 0, 0), 1);
        e.is("see(1, 12, 99)", x.see(1, 12, 99), 2);
        e.is("see(0, 0, 0) once more", x.see(0, 0, 0), 3);
        e.is("count(2)", x.count(2), 3);
    }

    private static void seesNoneThen(Edges e) {
        SnoozeRow x = Due.row(0, 0);
        e.is("see(-1, 0, 0), none yet", x.see(-1, 0, 0), 0);
        for (int i = 0; i < 5; i++) {
            x.see(0, 0, i);
        }
        e.is("see(-1, 13, 100), full", x.see(-1, 13, 100), 0);
        e.is("count(2)", x.count(2), 0);
        e.is("of(0, 7)", x.of(0, 7), 100);
        e.is("see(0, 0, 3)", x.see(0, 0, 3), 1);
        e.is("of(0, 8)", x.of(0, 8), 3);
    }

    private static void seeNone(Edges e) {
        SnoozeRow x = Due.row(0, 0);
        int[] none = {-2, 1, 6, MIN, MAX};
        for (int p : none) {
            e.is("see(" + p + ", 0, 0)", x.see(p, 0, 0), NONE);
        }
        e.is("see(0, 0, 0) of none", new SnoozeRow().see(0, 0, 0), NONE);
        e.is("count(2)", x.count(2), 0);
    }

    private static void seeBadMornings(Edges e) {
        SnoozeRow x = Due.row(0, 0);
        int[] bad = {-1, 13, MIN, MAX};
        for (int n : bad) {
            e.is("see(0, " + n + ", 0)", x.see(0, n, 0), BAD);
        }
        e.is("count(2)", x.count(2), 0);
    }

    private static void seeBadOwed(Edges e) {
        SnoozeRow x = Due.row(0, 0);
        int[] bad = {-1, 100, MIN, MAX};
        for (int owed : bad) {
            e.is("see(0, 0, " + owed + ")", x.see(0, 0, owed), BAD);
        }
        e.is("count(2)", x.count(2), 0);
    }

    private static SnoozeRow fiveSeen() {
        SnoozeRow x = Due.row(0, 0);
        for (int i = 0; i < 5; i++) {
            x.see(0, 0, 0);
        }
        return x;
    }

    private static void seeFull(Edges e) {
        SnoozeRow x = fiveSeen();
        e.is("count(2)", x.count(2), 5);
        e.is("see(0, 0, 1)", x.see(0, 0, 1), FULL);
        e.is("count(2)", x.count(2), 5);
        e.is("of(0, 7)", x.of(0, 7), 1);
    }

    private static void seeRefusesInOrder(Edges e) {
        SnoozeRow x = fiveSeen();
        e.is("see(1, 13, 100) full", x.see(1, 13, 100), NONE);
        e.is("see(1, 0, 0) full", x.see(1, 0, 0), NONE);
        e.is("see(0, 13, 0) full", x.see(0, 13, 0), BAD);
        e.is("see(0, 0, 100) full", x.see(0, 0, 100), BAD);
        e.is("see(1, 13, 0)", Due.row(0, 0).see(1, 13, 0), NONE);
    }

    private static void canWhat(Edges e) {
        can(e, Due.row(1, 4), 0, 10, 0);
        can(e, lodger(13, 1), 0, 1, 9);
        can(e, lodger(12, 1), 0, 0, -5);
    }

    private static void canNone(Edges e) {
        SnoozeRow x = Due.row(0, 0);
        int[] sleepers = {-1, 1, 6, MIN, MAX};
        for (int p : sleepers) {
            e.is("can(" + p + ", 0)", x.can(p, 0), NONE);
        }
        int[] whats = {-1, 2, MIN, MAX};
        for (int what : whats) {
            e.is("can(0, " + what + ")", x.can(0, what), NONE);
        }
    }

    private static void oddsParts(Edges e) {
        SnoozeRow x = Due.row(0, 0, 1, 9);
        e.is("odds(1, 10, 0)", x.odds(1, 10, 0), 1);
        e.is("odds(1, 10, 1)", x.odds(1, 10, 1), 2);
        e.is("odds(1, 19, 0)", x.odds(1, 19, 0), 0);
        e.is("odds(1, 19, 1)", x.odds(1, 19, 1), 1);
    }

    private static void oddsNoMornings(Edges e) {
        SnoozeRow x = Due.row(0, 0);
        int[] no = {-1, 21, MIN, MAX};
        for (int n : no) {
            odds(e, x, n, 0, NO, NO);
        }
    }

    private static void oddsNoDepth(Edges e) {
        SnoozeRow x = Due.row(0, 0);
        int[] no = {-1, 10000, MIN, MAX};
        for (int q : no) {
            odds(e, x, 0, q, NO, NO);
        }
    }

    private static void oddsNoPart(Edges e) {
        SnoozeRow x = Due.row(0, 0);
        int[] no = {-1, 2, MIN, MAX};
        for (int part : no) {
            e.is("odds(0, 0, " + part + ")", x.odds(0, 0, part), NO);
        }
        // as told: all are AWAY, or there are none
        x.away(0, true);
        odds(e, x, 0, 0, NO, NO);
    }

    private static void meanParts(Edges e) {
        SnoozeRow x = Due.row(0, 0, 0, 0);
        x.owe(0, 3);
        e.is("mean(0, 0)", x.mean(0, 0), 3);
        e.is("mean(0, 1)", x.mean(0, 1), 2);
    }

    private static void meanNo(Edges e) {
        SnoozeRow x = Due.row(0, 0);
        int[] mornings = {-1, 61, MIN, MAX};
        for (int n : mornings) {
            mean(e, x, n, NO, NO);
        }
        int[] parts = {-1, 2, MIN, MAX};
        for (int part : parts) {
            e.is("mean(0, " + part + ")", x.mean(0, part), NO);
        }
        mean(e, new SnoozeRow(), 0, NO, NO);
    }
}
