/** Boundary cases of the PLAN and the BOOK: the Terms' part on them, promises 19 to 22. */
final class PlanEdges {
    private static final int NONE = SnoozeRow.NONE, BAD = SnoozeRow.BAD, FULL = SnoozeRow.FULL;
    private static final int MIN = Integer.MIN_VALUE, MAX = Integer.MAX_VALUE;

    static void all(Edges e) {
        e.says("Terms", "what goes (0 a MORNING, 1 one is AWAY, 2 one is not, 3 OWED of one is 0;", PlanEdges::whatGoes);
        e.says("Terms", "10 rows at most)", PlanEdges::tenRows);
        e.says("Terms", "ENDS: DEEP; LIVED of all, together.", PlanEdges::endsOfAll);
        e.says("Terms", "A BOOK told by hand: SLEEPERS, OWED (0 .. 9999;", PlanEdges::bookOwed);
        e.says("Terms", "8 at most)", PlanEdges::eightRows);
        e.says("Terms", "the number of the first of these rows by which it is otherwise now", PlanEdges::firstOtherwise);
        e.says("Terms", "otherwise now (-5: none)", PlanEdges::noneOtherwise);
        e.says("19", "A row comes to the PLAN: how many there are", PlanEdges::plans);
        e.says("19", "(what -1: it is empty then, 0)", PlanEdges::planEmptyThen);
        e.says("19", "NONE: what (0 .. 3)", PlanEdges::planNoWhat);
        e.says("19", "sleeper (but by 0)", PlanEdges::planNoSleeper);
        e.says("19", "FULL: 10.", PlanEdges::planFull);
        e.says("19", "NONE: what (0 .. 3), sleeper (but by 0); FULL: 10.", PlanEdges::planRefusesInOrder);
        e.says("20", "ENDS: what 0 DEEP, 1 LIVED.", PlanEdges::ends);
        e.says("20", "NONE.", PlanEdges::endsNone);
        e.says("21", "A row comes to the BOOK: how many there are", PlanEdges::books);
        e.says("21", "(sleeper -1: it is empty then, 0)", PlanEdges::bookEmptyThen);
        e.says("21", "NONE;", PlanEdges::bookNone);
        e.says("21", "BAD: owed", PlanEdges::bookBad);
        e.says("21", "FULL: 8.", PlanEdges::bookFull);
        e.says("21", "NONE; BAD: owed; FULL: 8.", PlanEdges::bookRefusesInOrder);
        e.says("22", "LOOKED at; -5.", PlanEdges::looked);
    }

    private static void ends(Edges e, SnoozeRow x, int deep, int lived) {
        e.is("ends(0)", x.ends(0), deep);
        e.is("ends(1)", x.ends(1), lived);
    }

    // ---- the PLAN

    private static void whatGoes(Edges e) {
        SnoozeRow x = Due.row(0, 0, 1, 5);
        x.owe(0, 80);
        x.plan(0, 0);
        // 80: 30 done, 40 borne, 10 and 9 come to 1, who does them; 14 go deep
        ends(e, x, 14, 49);
        x.plan(3, 0);
        x.plan(0, 0);
        ends(e, x, 28, 58);
        x.plan(1, 1);
        x.plan(1, 1);
        x.plan(0, 0);
        ends(e, x, 37, 58);
        x.plan(2, 1);
        x.plan(2, 1);
        x.plan(0, 0);
        ends(e, x, 51, 67);
        e.is("told(3)", x.told(3), 0);
        e.is("of(0, 2)", x.of(0, 2), 80);
        // one who is AWAY comes back by the PLAN alone
        SnoozeRow y = Due.row(0, 0);
        y.away(0, true);
        y.plan(0, 0);
        ends(e, y, 0, 0);
        y.plan(2, 0);
        y.plan(0, 0);
        ends(e, y, 9, 0);
        e.is("told(3)", y.told(3), 1);
    }

    private static void tenRows(Edges e) {
        SnoozeRow x = Due.row(0, 0);
        for (int i = 1; i <= 10; i++) {
            e.is("plan(0, 0)", x.plan(0, 0), i);
            ends(e, x, 9 * i, 0);
        }
        e.is("plan(0, 0)", x.plan(0, 0), FULL);
        ends(e, x, 90, 0);
    }

    private static void endsOfAll(Edges e) {
        SnoozeRow x = Due.row(0, 0, 0, 0, 0, 0);
        x.dip(7);
        ends(e, x, 7, 0);
        x.owe(0, 30);
        x.owe(1, 30);
        x.owe(2, 30);
        x.away(2, true);
        x.pass(1);
        ends(e, x, 16, 60);
        // of all: of one who is AWAY, too
        x.away(2, false);
        x.pass(1);
        x.away(2, true);
        ends(e, x, 25, 60 + 18 + 30);
        ends(e, new SnoozeRow(), 0, 0);
    }

    private static void plans(Edges e) {
        SnoozeRow x = Due.row(0, 0);
        for (int what = 0; what <= 3; what++) {
            e.is("plan(" + what + ", 0)", x.plan(what, 0), what + 1);
        }
        e.is("count(3)", x.count(3), 4);
    }

    private static void planEmptyThen(Edges e) {
        SnoozeRow x = Due.row(0, 0);
        e.is("plan(-1, 0), empty", x.plan(-1, 0), 0);
        for (int i = 0; i < 10; i++) {
            x.plan(0, 0);
        }
        e.is("plan(-1, 9), full", x.plan(-1, 9), 0);
        e.is("count(3)", x.count(3), 0);
        ends(e, x, 0, 0);
        e.is("plan(0, 0)", x.plan(0, 0), 1);
        ends(e, x, 9, 0);
    }

    private static void planNoWhat(Edges e) {
        SnoozeRow x = Due.row(0, 0);
        int[] none = {-2, 4, MIN, MAX};
        for (int what : none) {
            e.is("plan(" + what + ", 0)", x.plan(what, 0), NONE);
        }
        e.is("count(3)", x.count(3), 0);
    }

    private static void planNoSleeper(Edges e) {
        SnoozeRow x = Due.row(0, 0);
        int[] none = {-1, 1, 6, MIN, MAX};
        for (int p : none) {
            for (int what = 1; what <= 3; what++) {
                e.is("plan(" + what + ", " + p + ")", x.plan(what, p), NONE);
            }
        }
        e.is("count(3)", x.count(3), 0);
        for (int i = 0; i < none.length; i++) {
            e.is("plan(0, " + none[i] + ")", x.plan(0, none[i]), i + 1);
        }
        ends(e, x, 45, 0);
        SnoozeRow y = new SnoozeRow();
        e.is("plan(0, 0) of none", y.plan(0, 0), 1);
        ends(e, y, 0, 0);
    }

    private static SnoozeRow tenPlanned() {
        SnoozeRow x = Due.row(0, 0);
        for (int i = 0; i < 10; i++) {
            x.plan(0, 0);
        }
        return x;
    }

    private static void planFull(Edges e) {
        SnoozeRow x = tenPlanned();
        for (int what = 0; what <= 3; what++) {
            e.is("plan(" + what + ", 0)", x.plan(what, 0), FULL);
        }
        e.is("count(3)", x.count(3), 10);
        ends(e, x, 90, 0);
    }

    private static void planRefusesInOrder(Edges e) {
        SnoozeRow x = tenPlanned();
        e.is("plan(4, 0) full", x.plan(4, 0), NONE);
        e.is("plan(1, 1) full", x.plan(1, 1), NONE);
        e.is("plan(-2, 0) full", x.plan(-2, 0), NONE);
        e.is("plan(0, 1) full", x.plan(0, 1), FULL);
    }

    private static void ends(Edges e) {
        SnoozeRow x = Due.row(0, 0);
        x.owe(0, 20);
        x.plan(0, 0);
        e.is("ends(0)", x.ends(0), 9);
        e.is("ends(1)", x.ends(1), 20);
    }

    private static void endsNone(Edges e) {
        SnoozeRow x = Due.row(0, 0);
        int[] none = {-1, 2, MIN, MAX};
        for (int what : none) {
            e.is("ends(" + what + ")", x.ends(what), NONE);
        }
    }

    // ---- the BOOK

    private static void bookOwed(Edges e) {
        SnoozeRow x = Due.row(0, 0, 0, 0);
        e.is("book(0, 0)", x.book(0, 0), 1);
        e.is("book(1, 9999)", x.book(1, 9999), 2);
        e.is("looked()", x.looked(), 1);
        x.owe(1, 9999);
        e.is("looked()", x.looked(), -5);
        x.owe(1, 9998);
        e.is("looked()", x.looked(), 1);
        x.owe(0, 1);
        e.is("looked()", x.looked(), 0);
    }

    private static void eightRows(Edges e) {
        SnoozeRow x = Due.row(0, 0, 0, 0);
        for (int i = 1; i <= 7; i++) {
            e.is("book(0, 0)", x.book(0, 0), i);
        }
        e.is("book(1, 5)", x.book(1, 5), 8);
        e.is("book(1, 6)", x.book(1, 6), FULL);
        e.is("looked(), the eighth", x.looked(), 7);
        x.owe(1, 5);
        e.is("looked(), none", x.looked(), -5);
    }

    private static void firstOtherwise(Edges e) {
        SnoozeRow x = Due.row(0, 0, 0, 0, 0, 0);
        x.book(2, 0);
        x.book(1, 5);
        x.book(1, 0);
        x.book(0, 9);
        // the row's number, not the SLEEPER's; of two of the same SLEEPER one is otherwise
        e.is("looked()", x.looked(), 1);
        x.owe(1, 5);
        e.is("looked()", x.looked(), 2);
        x.owe(2, 1);
        e.is("looked()", x.looked(), 0);
    }

    private static void noneOtherwise(Edges e) {
        SnoozeRow x = Due.row(0, 0);
        e.is("looked(), no rows", x.looked(), -5);
        x.book(0, 0);
        e.is("looked(), as it is", x.looked(), -5);
        x.owe(0, 1);
        e.is("looked()", x.looked(), 0);
        x.pass(1);
        e.is("looked(), as it is now", x.looked(), -5);
    }

    private static void books(Edges e) {
        SnoozeRow x = Due.row(0, 0, 0, 0);
        e.is("book(0, 0)", x.book(0, 0), 1);
        e.is("book(1, 9999)", x.book(1, 9999), 2);
        e.is("book(0, 0) once more", x.book(0, 0), 3);
        e.is("count(4)", x.count(4), 3);
    }

    private static void bookEmptyThen(Edges e) {
        SnoozeRow x = Due.row(0, 0);
        e.is("book(-1, 0), empty", x.book(-1, 0), 0);
        for (int i = 0; i < 8; i++) {
            x.book(0, 5);
        }
        e.is("book(-1, -1), full", x.book(-1, -1), 0);
        e.is("count(4)", x.count(4), 0);
        e.is("looked()", x.looked(), -5);
        e.is("book(0, 5)", x.book(0, 5), 1);
        e.is("looked()", x.looked(), 0);
    }

    private static void bookNone(Edges e) {
        SnoozeRow x = Due.row(0, 0);
        int[] none = {-2, 1, 6, MIN, MAX};
        for (int p : none) {
            e.is("book(" + p + ", 0)", x.book(p, 0), NONE);
        }
        e.is("count(4)", x.count(4), 0);
    }

    private static void bookBad(Edges e) {
        SnoozeRow x = Due.row(0, 0);
        int[] bad = {-1, 10000, MIN, MAX};
        for (int owed : bad) {
            e.is("book(0, " + owed + ")", x.book(0, owed), BAD);
        }
        e.is("count(4)", x.count(4), 0);
    }

    private static SnoozeRow eightBooked() {
        SnoozeRow x = Due.row(0, 0);
        for (int i = 0; i < 8; i++) {
            x.book(0, 0);
        }
        return x;
    }

    private static void bookFull(Edges e) {
        SnoozeRow x = eightBooked();
        e.is("book(0, 1)", x.book(0, 1), FULL);
        e.is("count(4)", x.count(4), 8);
        e.is("looked()", x.looked(), -5);
    }

    private static void bookRefusesInOrder(Edges e) {
        SnoozeRow x = eightBooked();
        e.is("book(1, 10000) full", x.book(1, 10000), NONE);
        e.is("book(1, 0) full", x.book(1, 0), NONE);
        e.is("book(0, 10000) full", x.book(0, 10000), BAD);
        e.is("book(1, -1)", Due.row(0, 0).book(1, -1), NONE);
    }

    private static void looked(Edges e) {
        SnoozeRow x = Due.row(0, 0);
        e.is("looked()", x.looked(), -5);
        x.book(0, 1);
        e.is("looked()", x.looked(), 0);
        e.is("count(4)", x.count(4), 1);
    }
}
