/** Promises 23 to 25 and 29: JUDGED, THE IMAGE, undo, count. */
public final class ImageTest {
    private static final Due DUE = new Due();

    public static void main(String[] args) {
        judge();
        image();
        imageHoldsAll();
        imageHoldsNoMore();
        imageHoldsRows();
        newcomersAreNew();
        count();
        DUE.end();
    }

    private static void judge() {
        DUE.promise("23 judge");
        SnoozeRow x = new SnoozeRow();
        DUE.is("judge(0, 0)", x.judge(0, 0), -5);
        DUE.is("judge(6, 0)", x.judge(6, 0), SnoozeRow.NONE);
        DUE.is("judge(-1, 0)", x.judge(-1, 0), SnoozeRow.NONE);
        x.tape(1, 3, 5);
        DUE.is("judge(1, 0) of longs", x.judge(1, 0), -12);
        x.tape(1, 2, 5);
        DUE.is("judge(1, 9) without SLEEPERS", x.judge(1, 9), -5);
        for (int p = 0; p < 3; p++) {
            x.sleeper(0, 0);
            x.owe(p, 10 + p);
        }
        DUE.is("judge(0, 0) of nothing", x.judge(0, 0), 100);
        DUE.is("judge(0, -1) of nothing", x.judge(0, -1), 100);
        DUE.is("judge(1, 0)", x.judge(1, 0), 0);
        for (int i = 0; i < 5; i++) {
            x.item(1, i, 9 + i);
        }
        DUE.is("judge(1, 0)", x.judge(1, 0), 0);
        DUE.is("judge(1, 1)", x.judge(1, 1), -5);
        x.item(1, 3, 0);
        DUE.is("judge(1, 1)", x.judge(1, 1), 2);
        x.item(1, 2, 11 + (1L << 32));
        DUE.is("judge(1, 1)", x.judge(1, 1), 2);
        DUE.is("judge(1, 5)", x.judge(1, 5), 100);
        DUE.is("judge(1, -1)", x.judge(1, -1), 100);
        DUE.is("judge(1, max)", x.judge(1, Integer.MAX_VALUE), 100);
        DUE.is("judge(1, min)", x.judge(1, Integer.MIN_VALUE), 100);
        x.item(1, 4, 10);
        DUE.is("judge(1, 4)", x.judge(1, 4), 101);
        x.item(1, 3, 10);
        x.item(1, 4, 11);
        DUE.is("judge(1, 3)", x.judge(1, 3), 102);
        x.item(1, 4, 12);
        DUE.is("judge(1, 3)", x.judge(1, 3), 1);
        x.tape(1, 2, 0);
        DUE.is("judge(1, 0) of none", x.judge(1, 0), 100);
        int[] others = {0, 1, 3, 4};
        for (int sort : others) {
            x.tape(1, sort, 9);
            DUE.is("judge(1, -1) of sort " + sort, x.judge(1, -1), -12);
        }
        x.tape(1, -1, 0);
        DUE.is("judge(1, 0)", x.judge(1, 0), 100);
    }

    private static void image() {
        DUE.promise("24 image, 25 undo");
        SnoozeRow x = new SnoozeRow();
        DUE.is("undo()", x.undo(), SnoozeRow.STATE);
        DUE.is("image()", x.image(), 0);
        x.sleeper(0, 0);
        DUE.is("undo()", x.undo(), 0);
        DUE.is("count(0)", x.count(0), 0);
        x.sleeper(1, 1);
        x.sleeper(2, 2);
        DUE.is("image()", x.image(), 2);
        x.sleeper(3, 3);
        DUE.is("undo()", x.undo(), 2);
        x.owe(1, 5);
        DUE.is("undo()", x.undo(), 2);
        DUE.is("of(1, 2)", x.of(1, 2), 0);
        DUE.is("of(2, 0)", x.of(2, 0), -10001);
    }

    private static void imageHoldsAll() {
        SnoozeRow x = Due.row(6, 7, 4, 2);
        Due.street(x, "bear 33");
        x.owe(0, 77);
        x.row(0, 1, 8);
        x.away(1, true);
        x.pass(3);
        x.see(0, 1, 2);
        x.plan(1, 0);
        x.book(0, 5);
        x.dip(500);
        int owed = x.of(0, 2);
        int lived = x.of(0, 3);
        int owes = x.of(0, 7);
        int least = x.of(0, 8);
        DUE.is("image()", x.image(), 2);
        x.owe(0, 3);
        x.row(0, 1, 0);
        x.away(1, false);
        x.away(0, true);
        x.pass(9);
        x.see(-1, 0, 0);
        x.see(1, 2, 3);
        x.see(1, 2, 4);
        x.plan(-1, 0);
        x.plan(0, 0);
        x.book(-1, 0);
        x.book(1, 9999);
        x.book(1, 9999);
        x.dip(0);
        x.sleeper(5, 5);
        Due.street(x, "bear 66");
        DUE.is("told(1)", x.told(1), 66);
        DUE.is("undo()", x.undo(), 2);
        DUE.is("told(0)", x.told(0), 3);
        DUE.is("told(1)", x.told(1), 33);
        DUE.is("told(2)", x.told(2), 500);
        DUE.is("told(3)", x.told(3), 2);
        DUE.is("of(0, 0)", x.of(0, 0), 6);
        DUE.is("of(0, 1)", x.of(0, 1), 7);
        DUE.is("of(0, 2)", x.of(0, 2), owed);
        DUE.is("of(0, 3)", x.of(0, 3), lived);
        DUE.is("of(0, 7)", x.of(0, 7), owes);
        DUE.is("of(0, 8)", x.of(0, 8), least);
        DUE.is("row(0, 1, 8)", x.row(0, 1, 8), 8);
        DUE.is("count(2)", x.count(2), 1);
        DUE.is("count(3)", x.count(3), 1);
        DUE.is("count(4)", x.count(4), 1);
        DUE.is("ends(0)", x.ends(0), 500);
        DUE.is("looked()", x.looked(), owed == 5 ? -5 : 0);
        x.owe(0, 5);
        DUE.is("looked()", x.looked(), -5);
    }

    private static void imageHoldsNoMore() {
        SnoozeRow x = Due.row(0, 0);
        x.tape(0, 0, 1);
        x.image();
        Due.street(x, "bear 1");
        Due.street(x, "bear 2");
        Due.feeds(x, "bear 3");
        x.tape(0, 2, 4);
        x.item(0, 3, 9);
        x.act(0, 2, 7);
        x.undo();
        DUE.is("told(1) without a STREET", x.told(1), 40);
        DUE.is("count(1)", x.count(1), 2);
        DUE.is("count(5)", x.count(5), 6);
        DUE.is("count(6)", x.count(6), 3);
        DUE.is("trace(0)", x.trace(0), 12);
        DUE.is("read(0, 3)", x.read(0, 3), 9);
        DUE.is("street()", x.street(), 2);
        DUE.is("told(1)", x.told(1), 3);
        x.image();
        DUE.is("undo()", x.undo(), 1);
        DUE.is("told(1)", x.told(1), 3);
    }

    private static void imageHoldsRows() {
        SnoozeRow x = Due.row(6, 0, 6, 0, 6, 0, 6, 0, 6, 0, 6, 0);
        for (int p = 0; p < 6; p++) {
            for (int part = 0; part < 4; part++) {
                x.row(p, part, (p + part) % 10);
            }
        }
        x.image();
        for (int p = 0; p < 6; p++) {
            for (int part = 0; part < 4; part++) {
                x.row(p, part, 9);
            }
        }
        x.undo();
        for (int p = 0; p < 6; p++) {
            for (int part = 0; part < 4; part++) {
                DUE.is("row(" + p + ", " + part + ", 0)", x.row(p, part, 0), (p + part) % 10);
            }
        }
    }

    private static void newcomersAreNew() {
        SnoozeRow x = Due.row(0, 0);
        x.image();
        x.sleeper(6, 9);
        x.owe(1, 70);
        x.row(1, 2, 9);
        x.pass(1);
        x.away(1, true);
        x.undo();
        DUE.is("told(3)", x.told(3), 0);
        DUE.is("sleeper(6, 1)", x.sleeper(6, 1), 1);
        DUE.is("of(1, 1)", x.of(1, 1), 1);
        DUE.is("of(1, 2)", x.of(1, 2), 0);
        DUE.is("of(1, 3)", x.of(1, 3), 0);
        DUE.is("of(1, 4)", x.of(1, 4), 0);
        DUE.is("row(1, 2, 0)", x.row(1, 2, 0), 0);
    }

    private static void count() {
        DUE.promise("29 count");
        SnoozeRow x = Due.row(0, 0, 0, 0, 0, 0);
        Due.street(x, "bear 1");
        Due.street(x, "bear 1");
        Due.feeds(x, "12345678");
        x.see(0, 0, 0);
        for (int i = 0; i < 4; i++) {
            x.plan(0, 0);
        }
        for (int i = 0; i < 5; i++) {
            x.book(0, 0);
        }
        x.act(0, 1, 0);
        int[] many = {3, 2, 1, 4, 5, 8, 2};
        for (int what = 0; what < 7; what++) {
            DUE.is("count(" + what + ")", x.count(what), many[what]);
        }
        DUE.is("count(7)", x.count(7), SnoozeRow.BAD);
        DUE.is("count(-1)", x.count(-1), SnoozeRow.BAD);
    }
}
