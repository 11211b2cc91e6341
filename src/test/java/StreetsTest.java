/** Promises 8 and 9: THE TEXT, and the STREETS that are read from it. */
public final class StreetsTest {
    private static final Due DUE = new Due();

    public static void main(String[] args) {
        feed();
        numbers();
        faults();
        nesting();
        manyClauses();
        full();
        tests();
        joins();
        afterFaults();
        sums();
        DUE.end();
    }

    private static void feed() {
        DUE.promise("8 feed");
        SnoozeRow x = new SnoozeRow();
        DUE.is("feed(-1)", x.feed(-1), SnoozeRow.BAD);
        DUE.is("feed(128)", x.feed(128), SnoozeRow.BAD);
        DUE.is("feed(0)", x.feed(0), 1);
        DUE.is("feed(127)", x.feed(127), 2);
        DUE.is("count(5)", x.count(5), 2);
        for (int i = 3; i <= 100; i++) {
            DUE.is("feed(32)", x.feed(32), i);
        }
        DUE.is("feed(32)", x.feed(32), SnoozeRow.FULL);
        DUE.is("feed(128)", x.feed(128), SnoozeRow.BAD);
        DUE.is("count(5)", x.count(5), 100);
        DUE.is("street()", x.street(), -10);
        DUE.is("count(5)", x.count(5), 0);
        DUE.is("feed(32)", x.feed(32), 1);
    }

    private static void numbers() {
        DUE.promise("9 street: its number, and which holds");
        SnoozeRow x = new SnoozeRow();
        DUE.is("street()", x.street(), -10);
        DUE.is("bear 5", Due.street(x, "bear 5"), 0);
        DUE.is("count(5)", x.count(5), 0);
        DUE.is("bear 66", Due.street(x, "bear 66"), 1);
        DUE.is("told(1)", x.told(1), 66);
        DUE.is("bear 77;", Due.street(x, "bear 77;"), -18);
        DUE.is("count(5)", x.count(5), 0);
        DUE.is("told(1)", x.told(1), 66);
        DUE.is("count(1)", x.count(1), 2);
    }

    private static void fault(String text, int place) {
        DUE.is("street() of " + text, Due.street(new SnoozeRow(), text), -10 - place);
    }

    private static void well(String text) {
        DUE.is("street() of " + text, Due.street(new SnoozeRow(), text), 0);
    }

    private static void faults() {
        DUE.promise("9 street: the FAULT");
        String good = "late 9 p=1&!(k<2|v>30);soon 45 o=2;bear 7";
        well(good);
        for (int cut = 0; cut < good.length(); cut++) {
            String text = good.substring(0, cut);
            // behind p=1, behind the ) and behind o=2 it may end
            if (cut == 10 || cut == 22 || cut == 34) {
                well(text);
            } else {
                fault(text, cut);
                // nothing of an earlier text is read on
                SnoozeRow x = new SnoozeRow();
                Due.street(x, good);
                DUE.is("street() of " + text + " behind another", Due.street(x, text), -10 - cut);
            }
        }
        fault("x", 0);
        fault(" late 1 p=1", 0);
        fault("Late 1 p=1", 0);
        fault("lote 1 p=1", 1);
        fault("soom 1 p=1", 3);
        fault("late1 p=1", 4);
        fault("late  1 p=1", 5);
        fault("late x p=1", 5);
        fault("late 1p=1", 6);
        fault("late 1  p=1", 7);
        fault("late 123 p=1", 7);
        fault("late 1 P=1", 7);
        fault("late 1 p-1", 8);
        fault("late 1 p=x", 9);
        fault("late 1 p=123", 11);
        fault("late 1 p=1 ", 10);
        fault("late 1 p=1&&p=1", 11);
        fault("late 1 p=1||p=1", 11);
        fault("late 1 p=1|&p=1", 11);
        fault("late 1 (p=1", 11);
        fault("late 1 (p=1;bear 3", 11);
        fault("late 1 p=1)", 10);
        fault("late 1 ()", 8);
        fault("late 1 !", 8);
        fault("late 1 !;", 8);
        fault("late 1 p=1!p=1", 10);
        fault("late 1;bear 3", 6);
        fault("bear 1 p=1", 6);
        fault("bear 123", 7);
        fault("bear -1", 5);
        fault("bear 1;;bear 1", 7);
        fault("bear 1; bear 1", 7);
        fault(";bear 1", 0);
        fault("bear 1" + (char) 0, 6);
        well("late 00 p=00");
        well("soon 99 p>99|k<0&v=5");
        well("bear 0;bear 99");
    }

    private static void nesting() {
        DUE.promise("9 street: ( and ! within others");
        well("late 1 ((((p=1))))");
        well("late 1 !!!!p=1");
        well("late 1 (!(!p=1))");
        well("late 1 ((((p=1))))&((((p=1))))|!!!!p=1");
        well("late 1 !(((p=1)|!p=2))");
        fault("late 1 (((((p=1)))))", 11);
        fault("late 1 !!!!!p=1", 11);
        fault("late 1 !!!!(p=1)", 11);
        fault("late 1 (((p=1&!(!p=2)", 15);
        fault("late 1 ((((p=1|!p=2))))", 15);
        fault("bear 1;late 1 ((((p=1&(", 22);
    }

    private static void manyClauses() {
        DUE.promise("9 street: 1 to 10 CLAUSES");
        StringBuilder ten = new StringBuilder("bear 0");
        for (int c = 1; c < 10; c++) {
            ten.append(";bear ").append(c);
        }
        SnoozeRow x = new SnoozeRow();
        DUE.is("ten", Due.street(x, ten.toString()), 0);
        DUE.is("told(1)", x.told(1), 9);
        DUE.is("eleven", Due.street(x, ten + ";bear 7"), -10 - 69);
        DUE.is("ten and ;", Due.street(x, ten + ";"), -10 - 69);
        DUE.is("told(1)", x.told(1), 9);
        StringBuilder hundred = new StringBuilder("late 10 p=1");
        for (int t = 0; t < 22; t++) {
            hundred.append(t % 2 == 0 ? "|p=1" : "&p=1");
        }
        DUE.is("99 signs", hundred.length(), 99);
        DUE.is("99 signs", Due.street(x, hundred.toString()), 1);
        DUE.is("100 signs", Due.street(x, hundred + "0"), 2);
        DUE.is("cut at 100", Due.street(x, hundred + "|p=1"), -110);
        // 100 signs that end behind a ;, a letter, a sign, a blank, a word, a ( and a !
        String[] last = {"0;", "|p", "|p=", "&(", "&!", "0;l", ";b", ";late", ";bear ", ";late 1", ";late 1 "};
        for (String end : last) {
            StringBuilder text = new StringBuilder("late 10 p=1");
            while (text.length() + end.length() + 4 <= 100) {
                text.append("|p=1");
            }
            while (text.length() + end.length() < 100) {
                text.insert(8, '!');
            }
            DUE.is("100 signs with " + end, Due.feeds(x, text + end), 100);
            DUE.is("100 signs with " + end, x.street(), -110);
        }
        tenSums();
    }

    private static void tenSums() {
        SnoozeRow x = Due.row(0, 0);
        String ten = "late 1 p=0;late 2 p=0;late 4 p=0;soon 8 p=0;bear 3;bear 4;bear 5;bear 6;bear 7;late 9 p<1";
        DUE.is("ten", Due.street(x, ten), 0);
        DUE.is("of(0, 5)", x.of(0, 5), 9 + 1 + 2 + 4 - 8 + 9);
        DUE.is("ten and a fault", Due.street(x, ten + "|"), -10 - ten.length() - 1);
        DUE.is("one behind them", Due.street(x, "late 3 p=0"), 1);
        DUE.is("of(0, 5)", x.of(0, 5), 12);
    }

    private static void full() {
        DUE.promise("9 street: FULL");
        SnoozeRow x = new SnoozeRow();
        for (int s = 0; s < 6; s++) {
            DUE.is("street()", Due.street(x, "bear 1" + s), s);
        }
        DUE.is("street() full, without a text", x.street(), SnoozeRow.FULL);
        DUE.is("street() full", Due.street(x, "bear 7"), SnoozeRow.FULL);
        DUE.is("count(5)", x.count(5), 6);
        DUE.is("street() full, with a fault", Due.street(x, "?"), SnoozeRow.FULL);
        DUE.is("count(5)", x.count(5), 7);
        DUE.is("told(1)", x.told(1), 15);
        DUE.is("count(1)", x.count(1), 6);
    }

    /** Whether an E holds for one who is third, of KIND 4, v 7, OWED 50 .. 59, LIVED 30, at MORNING 13. */
    private static void holds(String test, boolean is) {
        SnoozeRow x = Due.row(0, 0, 0, 0, 4, 7);
        x.away(0, true);
        x.away(1, true);
        x.pass(12);
        x.owe(2, 30);
        x.pass(1);
        x.owe(2, 59);
        DUE.is("street() of " + test, Due.street(x, "late 50 " + test), 0);
        DUE.is(test, x.of(2, 5), (is ? 59 : 9) + 7);
        x.owe(2, 50);
        DUE.is(test, x.of(2, 5), (is ? 59 : 9) + 7);
    }

    private static void tests() {
        DUE.promise("9 street: TESTS");
        String letters = "pkvolm";
        int[] values = {2, 4, 7, 5, 3, 3};
        for (int t = 0; t < 6; t++) {
            char letter = letters.charAt(t);
            for (int n = values[t] - 1; n <= values[t] + 1; n++) {
                holds(letter + "<" + n, values[t] < n);
                holds(letter + "=" + n, values[t] == n);
                holds(letter + ">" + n, values[t] > n);
            }
            holds(letter + "<99", true);
            holds(letter + "=0" + values[t], true);
            holds(letter + ">00", true);
        }
    }

    private static void joins() {
        DUE.promise("9 street: E, T, F");
        String[] yes = {"p=2", "!p=1"};
        String[] no = {"p=1", "!p=2", "(p>2)"};
        for (String y : yes) {
            for (String n : no) {
                holds(y + "&" + n, false);
                holds(n + "&" + y, false);
                holds(y + "|" + n, true);
                holds(n + "|" + y, true);
                holds(y + "|" + n + "&" + n, true);
                holds(n + "&" + n + "|" + y, true);
                holds("(" + y + "|" + n + ")&" + n, false);
                holds("(" + n + "|" + y + ")&" + y, true);
                holds(n + "&(" + y + "|" + y + ")", false);
                holds("!(" + y + "&" + n + ")", true);
                holds("!(" + y + "|" + n + ")", false);
                holds(n + "|" + n + "|" + n, false);
                holds(n + "|" + n + "|" + y, true);
                holds(y + "&" + y + "&" + y, true);
                holds(y + "&" + y + "&" + n, false);
            }
        }
        holds("p<0", false);
        holds("p=2&p<0|p=2", true);
        holds("p=2|p<0", true);
        holds("!p<0", true);
        holds("!p=2|p=2", true);
        holds("!p=2&p=1", false);
        holds("!!p=2", true);
        holds("!!!p=2", false);
        holds("!!!!p=2", true);
        holds("(p=2)&!(p=1|(p=1|!p=2))", true);
        holds("p=1|p=2&(p=1|p=2&(p=1|p=2&(p=1|p=2&(p=1|p=2))))", true);
        holds("p=1|p=2&(p=1|p=2&(p=1|p=2&(p=1|p=2&(p=1|p=1))))", false);
    }

    private static void afterFaults() {
        DUE.promise("9 street: behind FAULTS");
        SnoozeRow x = Due.row(0, 0);
        for (int i = 0; i < 4; i++) {
            String tests = "late 1 p=1|p=1|p=1|p=1|p=1|p=1|p=1|p=1|p=1|p=1|p=1|p=1|p=1|p=1|p=1|p=1|p=1|p=1|";
            DUE.is("street()", Due.street(x, tests), -10 - tests.length());
        }
        DUE.is("street()", Due.street(x, "late 3 p=1|p=1|p=1|p=1|p=0;bear 5"), 0);
        DUE.is("of(0, 5)", x.of(0, 5), 12);
        DUE.is("street()", Due.street(x, "bear 6;late 1 p"), -25);
        DUE.is("told(1)", x.told(1), 5);
        DUE.is("street()", Due.street(x, "soon 3 p=0"), 1);
        DUE.is("told(1)", x.told(1), 40);
        DUE.is("of(0, 5)", x.of(0, 5), 6);
    }

    private static void sums() {
        DUE.promise("9 street: SUM");
        SnoozeRow x = Due.row(0, 0, 0, 1);
        DUE.is("without a STREET", x.of(0, 5), 9);
        Due.street(x, "bear 50");
        DUE.is("without late and soon", x.of(0, 5), 9);
        Due.street(x, "late 7 p=0;soon 3 v=0;bear 8;late 20 p<9;soon 99 p=1;late 1 p=5");
        DUE.is("of(0, 5)", x.of(0, 5), 9 + 7 - 3 + 20);
        DUE.is("of(1, 5)", x.of(1, 5), 9 + 20 - 99);
        Due.street(x, "late 99 p=0;late 99 p=0;late 99 p=0;late 99 p=0;late 99 p=0;late 99 p=0");
        DUE.is("the newest holds", x.of(0, 5), 9 + 6 * 99);
        DUE.is("the newest holds", x.of(1, 5), 9);
    }
}
