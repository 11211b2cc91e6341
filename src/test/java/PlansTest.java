/** Promises 19 to 22: the PLAN, ENDS, the BOOK, LOOKED. */
public final class PlansTest {
    private static final Due DUE = new Due();

    public static void main(String[] args) {
        plan();
        ends();
        book();
        looked();
        DUE.end();
    }

    private static void plan() {
        DUE.promise("19 plan");
        SnoozeRow x = Due.row(0, 0, 0, 0);
        DUE.is("plan(-2, 0)", x.plan(-2, 0), SnoozeRow.NONE);
        DUE.is("plan(4, 0)", x.plan(4, 0), SnoozeRow.NONE);
        for (int what = 1; what <= 3; what++) {
            DUE.is("plan(" + what + ", 2)", x.plan(what, 2), SnoozeRow.NONE);
            DUE.is("plan(" + what + ", -1)", x.plan(what, -1), SnoozeRow.NONE);
        }
        DUE.is("count(3)", x.count(3), 0);
        DUE.is("plan(0, -7)", x.plan(0, -7), 1);
        DUE.is("plan(0, max)", x.plan(0, Integer.MAX_VALUE), 2);
        DUE.is("ends(0)", x.ends(0), 18);
        for (int i = 3; i <= 10; i++) {
            DUE.is("plan", x.plan(i % 4, i % 2), i);
        }
        DUE.is("plan(0, 0)", x.plan(0, 0), SnoozeRow.FULL);
        DUE.is("plan(4, 0)", x.plan(4, 0), SnoozeRow.NONE);
        DUE.is("plan(1, 2)", x.plan(1, 2), SnoozeRow.NONE);
        DUE.is("count(3)", x.count(3), 10);
        DUE.is("plan(-1, 9)", x.plan(-1, 9), 0);
        DUE.is("count(3)", x.count(3), 0);
        DUE.is("plan(3, 1)", x.plan(3, 1), 1);
    }

    private static void ends(SnoozeRow x, int deep, int lived) {
        DUE.is("ends(0)", x.ends(0), deep);
        DUE.is("ends(1)", x.ends(1), lived);
    }

    private static void ends() {
        DUE.promise("20 ends");
        SnoozeRow x = Due.row(0, 0, 1, 5);
        x.owe(0, 80);
        ends(x, 0, 0);
        x.plan(0, 0);
        // 80: 30 done, 40 borne, 10 come to 1, with 9, who does them; 14 deep
        ends(x, 14, 49);
        x.plan(3, 0);
        x.plan(0, 0);
        ends(x, 28, 58);
        x.plan(1, 1);
        x.plan(0, 0);
        ends(x, 37, 58);
        x.plan(1, 0);
        x.plan(0, 0);
        ends(x, 37, 58);
        x.plan(2, 1);
        x.plan(0, 0);
        ends(x, 51, 58);
        DUE.is("plan(0, 0)", x.plan(0, 0), 10);
        ends(x, 65, 58);
        DUE.is("of(0, 2) is as it was", x.of(0, 2), 80);
        DUE.is("told(3) is as it was", x.told(3), 0);
        DUE.is("told(0) is as it was", x.told(0), 0);
        DUE.is("ends(2)", x.ends(2), SnoozeRow.NONE);
        DUE.is("ends(-1)", x.ends(-1), SnoozeRow.NONE);
        x.pass(1);
        // what 0 still owes is 40 now: 30 of it are done ahead of the 3
        ends(x, 14 + 65, 49 + 30 + 9 + 9);
        x.plan(-1, 0);
        ends(x, 14, 49);
    }

    private static void book() {
        DUE.promise("21 book");
        SnoozeRow x = Due.row(0, 0, 0, 0);
        DUE.is("book(2, 0)", x.book(2, 0), SnoozeRow.NONE);
        DUE.is("book(-2, 0)", x.book(-2, 0), SnoozeRow.NONE);
        DUE.is("book(2, -1)", x.book(2, -1), SnoozeRow.NONE);
        DUE.is("book(0, -1)", x.book(0, -1), SnoozeRow.BAD);
        DUE.is("book(0, 10000)", x.book(0, 10000), SnoozeRow.BAD);
        DUE.is("count(4)", x.count(4), 0);
        for (int i = 1; i <= 8; i++) {
            DUE.is("book", x.book(i % 2, i == 8 ? 9999 : 0), i);
        }
        DUE.is("book(0, 0)", x.book(0, 0), SnoozeRow.FULL);
        DUE.is("book(0, -1)", x.book(0, -1), SnoozeRow.BAD);
        DUE.is("book(2, 0)", x.book(2, 0), SnoozeRow.NONE);
        DUE.is("count(4)", x.count(4), 8);
        DUE.is("book(-1, -5)", x.book(-1, -5), 0);
        DUE.is("count(4)", x.count(4), 0);
        DUE.is("book(1, 1)", x.book(1, 1), 1);
    }

    private static void looked() {
        DUE.promise("22 looked");
        SnoozeRow x = Due.row(0, 0, 0, 0, 0, 0);
        DUE.is("looked()", x.looked(), -5);
        x.book(1, 0);
        x.book(2, 0);
        x.book(1, 5);
        x.book(0, 9);
        DUE.is("looked()", x.looked(), 2);
        x.owe(1, 5);
        DUE.is("looked()", x.looked(), 0);
        x.book(-1, 0);
        x.book(1, 5);
        x.book(0, 0);
        DUE.is("looked()", x.looked(), -5);
        x.owe(0, 40);
        DUE.is("looked()", x.looked(), 1);
        x.pass(1);
        DUE.is("looked()", x.looked(), 0);
        x.pass(1);
        x.owe(1, 5);
        DUE.is("looked()", x.looked(), -5);
    }
}
