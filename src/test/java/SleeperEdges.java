/** Boundary cases of SLEEPERS: the Terms' first part, promises 1 to 7 and 10. */
final class SleeperEdges {
    private static final int NONE = SnoozeRow.NONE, BAD = SnoozeRow.BAD, STATE = SnoozeRow.STATE, FULL = SnoozeRow.FULL;
    private static final int MIN = Integer.MIN_VALUE, MAX = Integer.MAX_VALUE, NO_SUCH = -10001;

    static void all(Edges e) {
        e.says("What it is", "An object is used for at most 512 calls after it has been made", SleeperEdges::the512thCall);
        terms(e);
        e.says("1", "No SLEEPERS", SleeperEdges::noSleepersAtFirst);
        e.says("1", "no STREET", SleeperEdges::noStreetAtFirst);
        e.says("2", "A SLEEPER, behind the last door: its number.", SleeperEdges::behindTheLastDoor);
        e.says("2", "NONE: kind", SleeperEdges::noSuchKind);
        e.says("2", "BAD: v", SleeperEdges::vNotAsTold);
        e.says("2", "FULL: 6", SleeperEdges::sixAreFull);
        e.says("2", "NONE: kind; BAD: v; FULL: 6.", SleeperEdges::sleeperRefusesInOrder);
        of(e);
        e.says("4", "OWED of a SLEEPER becomes n (0 .. 9999): what it was.", SleeperEdges::oweBecomes);
        e.says("4", "NONE;", SleeperEdges::oweNone);
        e.says("4", "BAD.", SleeperEdges::oweBad);
        e.says("4", "NONE; BAD.", SleeperEdges::oweRefusesInOrder);
        e.says("5", "A SLEEPER is AWAY, or not: whether it was.", SleeperEdges::awayOrNot);
        e.says("5", "NONE.", SleeperEdges::awayNone);
        e.says("6", "DEEP becomes n (0 .. 9999): what it was.", SleeperEdges::dipBecomes);
        e.says("6", "BAD.", SleeperEdges::dipBad);
        row(e);
        told(e);
    }

    private static void terms(Edges e) {
        e.says("Terms", "5, as they come, door by door", SleeperEdges::sixDoors);
        e.says("Terms", "are of KINDS: 0 SLEEPER; 1 LODGER, 2 CLERK, 3 BOY under SLEEPER; 4 LORD under LODGER; "
            + "5 NURSE under CLERK; 6 TOLD under BOY", SleeperEdges::kinds);
        e.says("Terms", "with a number v (0 .. 9)", SleeperEdges::vBounds);
        e.says("Terms", "OWED (0 .. 9999; 0 at first)", SleeperEdges::owedBounds);
        e.says("Terms", "LIVED (0 .. 9999; 0 at first)", SleeperEdges::livedBounds);
        e.says("Terms", "AWAY, or not (not at first)", SleeperEdges::notAwayAtFirst);
        e.says("Terms", "DEEP: 0 .. 9999 (0 at first)", SleeperEdges::deepBounds);
        e.says("Terms", "MORNING: 0 at first.", SleeperEdges::morningAtFirst);
    }

    private static void of(Edges e) {
        e.says("3", "4 whether it is AWAY", SleeperEdges::ofAway);
        e.says("3", "5 URGE (whether it is AWAY or not)", SleeperEdges::urgeOfOneAway);
        e.says("3", "6 CHAIN (-5)", SleeperEdges::chainNone);
        e.says("3", "7 OWES: how many, 8 the least (-5).", SleeperEdges::owesNoneToAll);
        e.says("3", "-10001: NONE.", SleeperEdges::ofNone);
    }

    private static void row(Edges e) {
        e.says("7", "The ROW of a TOLD one becomes n (0 .. 9)", SleeperEdges::rowBecomes);
        e.says("7", "for MORNINGS modulo 4 being part: what it was.", SleeperEdges::rowParts);
        e.says("7", "NONE: sleeper", SleeperEdges::rowNoSleeper);
        e.says("7", "NONE: sleeper, part;", SleeperEdges::rowNoPart);
        e.says("7", "BAD;", SleeperEdges::rowBad);
        e.says("7", "STATE: another KIND.", SleeperEdges::rowOfAnotherKind);
        e.says("7", "NONE: sleeper, part; BAD; STATE: another KIND.", SleeperEdges::rowRefusesInOrder);
    }

    private static void told(Edges e) {
        e.says("10", "3 which are AWAY (bits)", SleeperEdges::toldAwayBits);
        e.says("10", "4 OWED of all, together", SleeperEdges::toldOwedOfAll);
        e.says("10", "5 LIVED of all, together", SleeperEdges::toldLivedOfAll);
        e.says("10", "NONE.", SleeperEdges::toldNone);
    }

    // ---- the document's first sentences

    private static void the512thCall(Edges e) {
        SnoozeRow x = Due.row(0, 0);
        for (int call = 2; call <= 511; call++) {
            x.pass(1);
        }
        e.is("told(2), the 512th call", x.told(2), 510 * 9);
    }

    private static void sixDoors(Edges e) {
        SnoozeRow x = new SnoozeRow();
        e.is("of(0, 0) of none", x.of(0, 0), NO_SUCH);
        for (int p = 0; p <= 5; p++) {
            e.is("sleeper(" + p + ", 0)", x.sleeper(p, 0), p);
            e.is("of(" + p + ", 0)", x.of(p, 0), p);
            e.is("of(" + (p + 1) + ", 0)", x.of(p + 1, 0), NO_SUCH);
        }
    }

    private static void kinds(Edges e) {
        int[] above = {-1, 0, 0, 0, 1, 2, 3};
        for (int kind = 0; kind <= 6; kind++) {
            SnoozeRow x = Due.row(kind, 0);
            e.is("of(0, 0)", x.of(0, 0), kind);
            for (int k = 0; k <= 6; k++) {
                boolean is = k == kind || k == above[kind] || k == 0;
                e.is("taken(0, " + k + ") of KIND " + kind, x.taken(0, k), is ? kind : -12);
            }
        }
    }

    private static void vBounds(Edges e) {
        SnoozeRow x = new SnoozeRow();
        e.is("sleeper(0, 0)", x.sleeper(0, 0), 0);
        e.is("sleeper(0, 9)", x.sleeper(0, 9), 1);
        e.is("of(0, 1)", x.of(0, 1), 0);
        e.is("of(1, 1)", x.of(1, 1), 9);
    }

    private static void owedBounds(Edges e) {
        SnoozeRow x = Due.row(0, 0);
        e.is("of(0, 2) at first", x.of(0, 2), 0);
        x.pass(1);
        e.is("of(0, 2), nothing to do", x.of(0, 2), 0);
        x.owe(0, 9999);
        e.is("of(0, 2)", x.of(0, 2), 9999);
    }

    /** The second one has 30 to do each MORNING: 9999 can be come to by some 334 of them. */
    private static SnoozeRow livedLong(int mornings) {
        SnoozeRow x = Due.row(0, 0, 0, 0);
        Due.street(x, "late 60 p=0");
        for (int gone = 0; gone < mornings; gone += 60) {
            x.pass(Math.min(60, mornings - gone));
        }
        return x;
    }

    private static void livedBounds(Edges e) {
        e.is("of(1, 3) at first", livedLong(0).of(1, 3), 0);
        e.is("of(1, 3) behind 333", livedLong(333).of(1, 3), 9990);
        e.is("of(1, 3) behind 334", livedLong(334).of(1, 3), 9999);
        e.is("of(1, 3) behind 400", livedLong(400).of(1, 3), 9999);
    }

    private static void notAwayAtFirst(Edges e) {
        SnoozeRow x = Due.row(0, 0, 6, 9);
        e.is("of(0, 4)", x.of(0, 4), 0);
        e.is("of(1, 4)", x.of(1, 4), 0);
        e.is("told(3)", x.told(3), 0);
    }

    private static void deepBounds(Edges e) {
        SnoozeRow x = Due.row(0, 0);
        e.is("told(2) at first", x.told(2), 0);
        x.dip(9999);
        e.is("told(2)", x.told(2), 9999);
        x.pass(1);
        e.is("told(2), and 9", x.told(2), 9999);
        x.dip(0);
        e.is("told(2)", x.told(2), 0);
    }

    private static void morningAtFirst(Edges e) {
        SnoozeRow x = new SnoozeRow();
        e.is("told(0)", x.told(0), 0);
        e.is("pass(0)", x.pass(0), 0);
    }

    // ---- promises 1 and 2

    private static void noSleepersAtFirst(Edges e) {
        SnoozeRow x = new SnoozeRow();
        e.is("count(0)", x.count(0), 0);
        e.is("of(0, 2)", x.of(0, 2), NO_SUCH);
        e.is("owe(0, 1)", x.owe(0, 1), NONE);
        e.is("told(3)", x.told(3), 0);
        e.is("told(4)", x.told(4), 0);
        e.is("told(5)", x.told(5), 0);
    }

    private static void noStreetAtFirst(Edges e) {
        SnoozeRow x = new SnoozeRow();
        e.is("count(1)", x.count(1), 0);
        e.is("count(5)", x.count(5), 0);
        e.is("told(1)", x.told(1), 40);
        x.sleeper(0, 0);
        e.is("of(0, 5)", x.of(0, 5), 9);
    }

    private static void behindTheLastDoor(Edges e) {
        SnoozeRow x = Due.row(0, 0);
        e.is("of(0, 6), the last", x.of(0, 6), -5);
        e.is("sleeper(1, 1)", x.sleeper(1, 1), 1);
        e.is("of(0, 6)", x.of(0, 6), 1);
        e.is("of(1, 6), the last", x.of(1, 6), -5);
    }

    private static void noSuchKind(Edges e) {
        SnoozeRow x = new SnoozeRow();
        int[] none = {-1, 7, MIN, MAX};
        for (int kind : none) {
            e.is("sleeper(" + kind + ", 0)", x.sleeper(kind, 0), NONE);
        }
        e.is("sleeper(0, 0)", x.sleeper(0, 0), 0);
        e.is("sleeper(6, 0)", x.sleeper(6, 0), 1);
    }

    private static void vNotAsTold(Edges e) {
        SnoozeRow x = new SnoozeRow();
        int[] bad = {-1, 10, MIN, MAX};
        for (int v : bad) {
            e.is("sleeper(0, " + v + ")", x.sleeper(0, v), BAD);
        }
        e.is("count(0)", x.count(0), 0);
    }

    private static void sixAreFull(Edges e) {
        SnoozeRow x = Due.row(0, 0, 0, 0, 0, 0, 0, 0, 0, 0);
        e.is("sleeper(0, 0), the sixth", x.sleeper(0, 0), 5);
        e.is("sleeper(0, 0), the seventh", x.sleeper(0, 0), FULL);
        e.is("count(0)", x.count(0), 6);
    }

    private static void sleeperRefusesInOrder(Edges e) {
        SnoozeRow x = Due.row(0, 0, 0, 0, 0, 0, 0, 0, 0, 0, 0, 0);
        e.is("sleeper(7, 10) full", x.sleeper(7, 10), NONE);
        e.is("sleeper(7, 0) full", x.sleeper(7, 0), NONE);
        e.is("sleeper(0, 10) full", x.sleeper(0, 10), BAD);
        e.is("sleeper(7, 10)", new SnoozeRow().sleeper(7, 10), NONE);
    }

    // ---- promise 3

    private static void ofAway(Edges e) {
        SnoozeRow x = Due.row(0, 0, 0, 0);
        x.away(1, true);
        e.is("of(0, 4)", x.of(0, 4), 0);
        e.is("of(1, 4)", x.of(1, 4), 1);
        x.away(1, false);
        e.is("of(1, 4)", x.of(1, 4), 0);
    }

    private static void urgeOfOneAway(Edges e) {
        SnoozeRow x = Due.row(1, 5);
        e.is("of(0, 5)", x.of(0, 5), 14);
        x.away(0, true);
        e.is("of(0, 5) AWAY", x.of(0, 5), 14);
    }

    private static void chainNone(Edges e) {
        SnoozeRow x = Due.row(0, 0, 0, 0);
        e.is("of(0, 6)", x.of(0, 6), 1);
        e.is("of(1, 6)", x.of(1, 6), -5);
    }

    private static void owesNoneToAll(Edges e) {
        SnoozeRow x = Due.row(0, 0);
        e.is("of(0, 7), all", x.of(0, 7), 100);
        e.is("of(0, 8), all", x.of(0, 8), 0);
        x.see(0, 0, 7);
        e.is("of(0, 7), one", x.of(0, 7), 1);
        e.is("of(0, 8), one", x.of(0, 8), 7);
        x.see(0, 0, 8);
        e.is("of(0, 7), none", x.of(0, 7), 0);
        e.is("of(0, 8), none", x.of(0, 8), -5);
    }

    private static void ofNone(Edges e) {
        SnoozeRow x = Due.row(0, 0, 0, 0);
        int[] sleepers = {-1, 2, 6, MIN, MAX};
        for (int p : sleepers) {
            for (int what = -1; what <= 9; what++) {
                e.is("of(" + p + ", " + what + ")", x.of(p, what), NO_SUCH);
            }
        }
        int[] whats = {-1, 9, MIN, MAX};
        for (int what : whats) {
            e.is("of(0, " + what + ")", x.of(0, what), NO_SUCH);
        }
    }

    // ---- promises 4 to 6

    private static void oweBecomes(Edges e) {
        SnoozeRow x = Due.row(0, 0);
        e.is("owe(0, 9999)", x.owe(0, 9999), 0);
        e.is("owe(0, 0)", x.owe(0, 0), 9999);
        e.is("owe(0, 1)", x.owe(0, 1), 0);
        e.is("owe(0, 1)", x.owe(0, 1), 1);
    }

    private static void oweNone(Edges e) {
        SnoozeRow x = Due.row(0, 0);
        int[] none = {-1, 1, 6, MIN, MAX};
        for (int p : none) {
            e.is("owe(" + p + ", 0)", x.owe(p, 0), NONE);
        }
    }

    private static void oweBad(Edges e) {
        SnoozeRow x = Due.row(0, 0);
        x.owe(0, 3);
        int[] bad = {-1, 10000, MIN, MAX};
        for (int n : bad) {
            e.is("owe(0, " + n + ")", x.owe(0, n), BAD);
        }
        e.is("of(0, 2)", x.of(0, 2), 3);
    }

    private static void oweRefusesInOrder(Edges e) {
        e.is("owe(0, -1) of none", new SnoozeRow().owe(0, -1), NONE);
        e.is("owe(1, 10000)", Due.row(0, 0).owe(1, 10000), NONE);
    }

    private static void awayOrNot(Edges e) {
        SnoozeRow x = Due.row(0, 0);
        e.is("away(0, false)", x.away(0, false), 0);
        e.is("away(0, true)", x.away(0, true), 0);
        e.is("away(0, true)", x.away(0, true), 1);
        e.is("away(0, false)", x.away(0, false), 1);
        e.is("away(0, false)", x.away(0, false), 0);
    }

    private static void awayNone(Edges e) {
        SnoozeRow x = Due.row(0, 0);
        int[] none = {-1, 1, 6, 32, MIN, MAX};
        for (int p : none) {
            e.is("away(" + p + ", true)", x.away(p, true), NONE);
        }
        e.is("told(3)", x.told(3), 0);
    }

    private static void dipBecomes(Edges e) {
        SnoozeRow x = new SnoozeRow();
        e.is("dip(9999)", x.dip(9999), 0);
        e.is("dip(0)", x.dip(0), 9999);
        e.is("dip(5)", x.dip(5), 0);
        e.is("told(2)", x.told(2), 5);
    }

    private static void dipBad(Edges e) {
        SnoozeRow x = new SnoozeRow();
        x.dip(4);
        int[] bad = {-1, 10000, MIN, MAX};
        for (int n : bad) {
            e.is("dip(" + n + ")", x.dip(n), BAD);
        }
        e.is("told(2)", x.told(2), 4);
    }

    // ---- promise 7

    private static void rowBecomes(Edges e) {
        SnoozeRow x = Due.row(6, 0);
        e.is("row(0, 0, 9)", x.row(0, 0, 9), 0);
        e.is("row(0, 0, 0)", x.row(0, 0, 0), 9);
        e.is("row(0, 0, 1)", x.row(0, 0, 1), 0);
    }

    private static void rowParts(Edges e) {
        SnoozeRow x = Due.row(6, 0, 6, 0);
        for (int part = 0; part <= 3; part++) {
            e.is("row(0, " + part + ", ..)", x.row(0, part, part + 1), 0);
        }
        for (int part = 0; part <= 3; part++) {
            e.is("row(1, " + part + ", ..)", x.row(1, part, 9), 0);
            e.is("row(0, " + part + ", ..)", x.row(0, part, part + 1), part + 1);
        }
        for (int m = 0; m < 9; m++) {
            e.is("of(0, 5) at " + m, x.of(0, 5), 9 + m % 4 + 1);
            x.pass(1);
        }
    }

    private static void rowNoSleeper(Edges e) {
        SnoozeRow x = Due.row(6, 0);
        int[] none = {-1, 1, 6, MIN, MAX};
        for (int p : none) {
            e.is("row(" + p + ", 0, 1)", x.row(p, 0, 1), NONE);
        }
    }

    private static void rowNoPart(Edges e) {
        SnoozeRow x = Due.row(6, 0, 6, 0);
        int[] none = {-1, 4, MIN, MAX};
        for (int part : none) {
            e.is("row(0, " + part + ", 1)", x.row(0, part, 1), NONE);
            e.is("row(1, " + part + ", 1)", x.row(1, part, 1), NONE);
        }
    }

    private static void rowBad(Edges e) {
        SnoozeRow x = Due.row(6, 0);
        x.row(0, 0, 3);
        int[] bad = {-1, 10, MIN, MAX};
        for (int n : bad) {
            e.is("row(0, 0, " + n + ")", x.row(0, 0, n), BAD);
        }
        e.is("row(0, 0, 3)", x.row(0, 0, 3), 3);
    }

    private static void rowOfAnotherKind(Edges e) {
        for (int kind = 0; kind <= 5; kind++) {
            e.is("row(0, 0, 1) of KIND " + kind, Due.row(kind, 0).row(0, 0, 1), STATE);
        }
        e.is("row(0, 0, 1) of KIND 6", Due.row(6, 0).row(0, 0, 1), 0);
    }

    private static void rowRefusesInOrder(Edges e) {
        SnoozeRow x = Due.row(0, 0, 6, 0);
        e.is("row(2, 0, 10)", x.row(2, 0, 10), NONE);
        e.is("row(1, 4, 10)", x.row(1, 4, 10), NONE);
        e.is("row(0, 4, 1)", x.row(0, 4, 1), NONE);
        e.is("row(0, 0, 10)", x.row(0, 0, 10), BAD);
        e.is("row(0, 0, 9)", x.row(0, 0, 9), STATE);
    }

    // ---- promise 10

    private static void toldAwayBits(Edges e) {
        SnoozeRow x = Due.row(0, 0, 0, 0, 0, 0, 0, 0, 0, 0, 0, 0);
        int bits = 0;
        int[] order = {5, 0, 3, 1, 2, 4};
        for (int p : order) {
            x.away(p, true);
            bits += 1 << p;
            e.is("told(3)", x.told(3), bits);
        }
        x.away(5, false);
        e.is("told(3)", x.told(3), 31);
    }

    private static void toldOwedOfAll(Edges e) {
        SnoozeRow x = Due.row(0, 0, 0, 0, 0, 0, 0, 0, 0, 0, 0, 0);
        e.is("told(4)", x.told(4), 0);
        for (int p = 0; p < 6; p++) {
            x.owe(p, 9999);
        }
        x.away(2, true);
        e.is("told(4) at its most, with one AWAY", x.told(4), 59994);
        e.is("told(4) of none", new SnoozeRow().told(4), 0);
    }

    private static void toldLivedOfAll(Edges e) {
        SnoozeRow x = Due.row(0, 0, 0, 0, 0, 0, 0, 0, 0, 0, 0, 0);
        Due.street(x, "soon 9 p<6;bear 0");
        for (int p = 0; p < 6; p++) {
            x.owe(p, 30);
        }
        x.pass(1);
        x.away(5, true);
        e.is("told(5), with one AWAY", x.told(5), 180);
        e.is("told(5) of none", new SnoozeRow().told(5), 0);
    }

    private static void toldNone(Edges e) {
        SnoozeRow x = Due.row(0, 0);
        int[] none = {-1, 6, MIN, MAX};
        for (int what : none) {
            e.is("told(" + what + ")", x.told(what), NONE);
        }
    }
}
