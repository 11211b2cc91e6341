/** Boundary cases of THE IMAGE and of count: the Terms' part on them, promises 24, 25 and 29. */
final class ImageEdges {
    private static final int BAD = SnoozeRow.BAD, STATE = SnoozeRow.STATE;
    private static final int MIN = Integer.MIN_VALUE, MAX = Integer.MAX_VALUE;

    static void all(Edges e) {
        e.says("Terms", "THE IMAGE: SLEEPERS with all that is theirs", ImageEdges::sleepers);
        e.says("Terms", "SLEEPERS with all that is theirs, DEEP", ImageEdges::sixRows);
        e.says("Terms", "DEEP, MORNING, SEEN", ImageEdges::deepAndMorning);
        e.says("Terms", "SEEN, the PLAN, the BOOK", ImageEdges::toldByHand);
        e.says("Terms", "which STREET holds.", ImageEdges::whichStreet);
        e.says("24", "THE IMAGE is taken: how many SLEEPERS there are.", ImageEdges::taken);
        e.says("25", "All is as THE IMAGE: how many SLEEPERS.", ImageEdges::undone);
        e.says("25", "STATE: there is none.", ImageEdges::noImage);
        e.says("29", "How many: 0 SLEEPERS, 1 STREETS, 2 SEEN, 3 of the PLAN, 4 of the BOOK, 5 bytes of THE TEXT",
            ImageEdges::counts);
        e.says("29", "6 bodies that ran in the latest act().", ImageEdges::countsBodies);
        e.says("29", "BAD.", ImageEdges::countBad);
    }

    // ---- what THE IMAGE holds

    private static void sleepers(Edges e) {
        SnoozeRow x = Due.row(6, 9, 4, 0);
        x.owe(0, 20);
        x.pass(1);
        x.owe(0, 9999);
        x.away(1, true);
        x.row(0, 3, 9);
        x.image();
        x.owe(0, 0);
        x.owe(1, 5);
        x.away(0, true);
        x.away(1, false);
        x.row(0, 3, 1);
        x.row(0, 0, 1);
        x.sleeper(6, 5);
        x.owe(2, 77);
        x.row(2, 0, 7);
        x.pass(1);
        x.away(2, true);
        e.is("undo()", x.undo(), 2);
        int[][] were = {{6, 9, 9999, 20, 0}, {4, 0, 0, 9, 1}};
        for (int p = 0; p < 2; p++) {
            for (int what = 0; what <= 4; what++) {
                e.is("of(" + p + ", " + what + ")", x.of(p, what), were[p][what]);
            }
        }
        e.is("of(2, 0), who came later", x.of(2, 0), -10001);
        e.is("row(0, 3, 0)", x.row(0, 3, 0), 9);
        e.is("row(0, 0, 0)", x.row(0, 0, 0), 0);
        // nothing is left of the one who came later
        e.is("sleeper(6, 0)", x.sleeper(6, 0), 2);
        for (int what = 1; what <= 4; what++) {
            e.is("of(2, " + what + ")", x.of(2, what), 0);
        }
        e.is("row(2, 0, 0)", x.row(2, 0, 0), 0);
    }

    private static void sixRows(Edges e) {
        SnoozeRow x = Due.row(6, 0, 6, 0, 6, 0, 6, 0, 6, 0, 6, 0);
        for (int p = 0; p < 6; p++) {
            for (int part = 0; part < 4; part++) {
                x.row(p, part, (p + 2 * part) % 10);
            }
        }
        x.image();
        for (int p = 0; p < 6; p++) {
            for (int part = 0; part < 4; part++) {
                x.row(p, part, 9);
            }
        }
        x.undo();
        for (int p = 0; p < 6; p++) {
            for (int part = 0; part < 4; part++) {
                e.is("row(" + p + ", " + part + ", 9)", x.row(p, part, 9), (p + 2 * part) % 10);
            }
        }
    }

    private static void deepAndMorning(Edges e) {
        SnoozeRow x = Due.row(0, 0);
        x.pass(3);
        x.dip(9999);
        x.image();
        x.pass(60);
        x.dip(0);
        x.undo();
        e.is("told(0)", x.told(0), 3);
        e.is("told(2)", x.told(2), 9999);
    }

    private static void toldByHand(Edges e) {
        SnoozeRow x = Due.row(0, 0, 0, 0);
        x.see(1, 0, 7);
        x.plan(1, 1);
        x.plan(0, 0);
        x.book(1, 0);
        x.book(0, 0);
        x.book(1, 3);
        x.image();
        x.see(-1, 0, 0);
        x.see(0, 1, 8);
        x.see(0, 1, 9);
        x.plan(-1, 0);
        x.plan(3, 0);
        x.book(-1, 0);
        x.book(0, 9);
        x.undo();
        e.is("count(2)", x.count(2), 1);
        e.is("of(1, 7)", x.of(1, 7), 1);
        e.is("of(1, 8)", x.of(1, 8), 7);
        e.is("count(3)", x.count(3), 2);
        // 1 is AWAY, and so the first one's 9 go deep, and none are done
        e.is("ends(0)", x.ends(0), 9);
        e.is("ends(1)", x.ends(1), 0);
        e.is("count(4)", x.count(4), 3);
        e.is("looked()", x.looked(), 2);
        x.owe(0, 1);
        e.is("looked()", x.looked(), 1);
        x.owe(1, 1);
        e.is("looked()", x.looked(), 0);
        // none then, and none in THE IMAGE
        SnoozeRow y = Due.row(0, 0);
        y.image();
        y.see(0, 0, 1);
        y.plan(0, 0);
        y.book(0, 1);
        y.undo();
        for (int what = 2; what <= 4; what++) {
            e.is("count(" + what + ")", y.count(what), 0);
        }
    }

    private static void whichStreet(Edges e) {
        SnoozeRow x = Due.row(0, 0);
        x.image();
        Due.street(x, "bear 1;late 1 p=0");
        x.undo();
        e.is("told(1), none held", x.told(1), 40);
        e.is("of(0, 5), none held", x.of(0, 5), 9);
        e.is("count(1)", x.count(1), 1);
        e.is("street(), the next", Due.street(x, "bear 2"), 1);
        x.image();
        Due.street(x, "bear 3");
        Due.feeds(x, "bear 4");
        x.undo();
        e.is("told(1)", x.told(1), 2);
        // THE TEXT and how many STREETS there are stay
        e.is("count(5)", x.count(5), 6);
        e.is("street(), the next", x.street(), 3);
        e.is("told(1)", x.told(1), 4);
        x.undo();
        e.is("told(1)", x.told(1), 2);
    }

    // ---- promises 24, 25 and 29

    private static void taken(Edges e) {
        SnoozeRow x = new SnoozeRow();
        e.is("image() of none", x.image(), 0);
        for (int p = 0; p < 6; p++) {
            x.sleeper(0, 0);
            e.is("image()", x.image(), p + 1);
        }
        x.owe(0, 5);
        x.undo();
        e.is("of(0, 2), of the latest image()", x.of(0, 2), 0);
        x.owe(0, 6);
        x.image();
        x.owe(0, 7);
        x.undo();
        e.is("of(0, 2), of the latest image()", x.of(0, 2), 6);
    }

    private static void undone(Edges e) {
        SnoozeRow x = new SnoozeRow();
        x.image();
        for (int p = 0; p < 6; p++) {
            x.sleeper(0, 0);
        }
        e.is("undo() to none", x.undo(), 0);
        e.is("count(0)", x.count(0), 0);
        e.is("told(4)", x.told(4), 0);
        x.sleeper(1, 1);
        x.sleeper(2, 2);
        x.image();
        e.is("undo(), as it is", x.undo(), 2);
        x.owe(1, 5);
        e.is("undo()", x.undo(), 2);
        e.is("of(1, 2)", x.of(1, 2), 0);
        // THE IMAGE is still there
        x.owe(1, 6);
        e.is("undo() once more", x.undo(), 2);
        e.is("of(1, 2)", x.of(1, 2), 0);
    }

    private static void noImage(Edges e) {
        SnoozeRow x = Due.row(0, 0);
        x.owe(0, 4);
        e.is("undo()", x.undo(), STATE);
        e.is("of(0, 2)", x.of(0, 2), 4);
        e.is("count(0)", x.count(0), 1);
        SnoozeRow none = new SnoozeRow();
        e.is("undo() of a new one", none.undo(), STATE);
        none.image();
        e.is("undo()", none.undo(), 0);
    }

    private static void counts(Edges e) {
        SnoozeRow x = new SnoozeRow();
        for (int what = 0; what <= 6; what++) {
            e.is("count(" + what + ") at first", x.count(what), 0);
        }
        for (int i = 0; i < 6; i++) {
            x.sleeper(0, 0);
            Due.street(x, "bear 1");
        }
        for (int i = 0; i < 100; i++) {
            x.feed(32);
        }
        for (int i = 0; i < 10; i++) {
            x.see(0, 0, 0);
            x.plan(0, 0);
            x.book(0, 0);
        }
        int[] most = {6, 6, 5, 10, 8, 100};
        for (int what = 0; what <= 5; what++) {
            e.is("count(" + what + ") at its most", x.count(what), most[what]);
        }
    }

    private static void countsBodies(Edges e) {
        SnoozeRow x = Due.row(0, 0, 6, 0);
        e.is("count(6) ahead of any act()", x.count(6), 0);
        x.act(1, 2, 0);
        e.is("count(6), the most", x.count(6), 12);
        x.act(0, 0, 0);
        e.is("count(6) of the latest", x.count(6), 1);
        x.act(0, 3, 0);
        e.is("count(6) of no act", x.count(6), 0);
    }

    private static void countBad(Edges e) {
        SnoozeRow x = Due.row(0, 0);
        int[] bad = {-1, 7, MIN, MAX};
        for (int what : bad) {
            e.is("count(" + what + ")", x.count(what), BAD);
        }
    }
}
