/** Boundary cases of STREETS: the Terms' part on THE TEXT, promises 8 and 9. */
final class StreetEdges {
    private static final int BAD = SnoozeRow.BAD, FULL = SnoozeRow.FULL;
    private static final int MIN = Integer.MIN_VALUE, MAX = Integer.MAX_VALUE;
    /** 41 signs with each word, letter kind and join in them. */
    private static final String GOOD = "late 9 p=1&!(k<2|v>30);soon 45 o=2;bear 7";

    static void all(Edges e) {
        e.says("Terms", "THE TEXT (bytes, 100 at most)", StreetEdges::hundredBytes);
        e.says("Terms", "CLAUSES, 1 to 10, with ; between", StreetEdges::clauses);
        e.says("Terms", "late n E; soon n E; bear n", StreetEdges::words);
        e.says("Terms", "one blank ahead of each part behind the word", StreetEdges::blanks);
        e.says("Terms", "; n 1 or 2 digits)", StreetEdges::digitsOfN);
        e.says("Terms", "E: T or T|E.", StreetEdges::either);
        e.says("Terms", "T: F or F&T.", StreetEdges::both);
        e.says("Terms", "F: !F, (E), or a TEST", StreetEdges::parts);
        e.says("Terms", "a TEST: a letter, < or = or >, a number", StreetEdges::testSigns);
        e.says("Terms", "a number (1 or 2 digits)", StreetEdges::digitsOfTests);
        e.says("Terms", "< or = or >, a number (1 or 2 digits)", StreetEdges::eachNumber);
        e.says("Terms", "of a SLEEPER p its number, k its KIND, v its v", StreetEdges::letters);
        e.says("Terms", "o OWED by 10 (cut)", StreetEdges::owedByTen);
        e.says("Terms", "l LIVED by 10 (cut)", StreetEdges::livedByTen);
        e.says("Terms", "m MORNING modulo 10", StreetEdges::morningModuloTen);
        e.says("Terms", "A ( or ! within 4 others is none.", StreetEdges::withinFour);
        e.says("Terms", "The FAULT: the place of the first byte with which none begins so", StreetEdges::firstByte);
        e.says("Terms", "(the end of THE TEXT, if it ends too early)", StreetEdges::endsTooEarly);
        e.says("Terms", "The newest STREET holds (6 at most)", StreetEdges::newestHolds);
        e.says("Terms", "without one there are no CLAUSES", StreetEdges::withoutOne);
        e.says("Terms", "BEAR (40 without): the last one's n.", StreetEdges::bear);
        e.says("Terms", "SUM of a SLEEPER: 9, and the n of all late whose E holds, less those of all soon, "
            + "together (may be below 0).", StreetEdges::sum);
        e.says("8", "A sign (0 .. 127) comes behind THE TEXT's: how many it has.", StreetEdges::feeds);
        e.says("8", "BAD;", StreetEdges::feedBad);
        e.says("8", "FULL.", StreetEdges::feedFull);
        e.says("8", "BAD; FULL.", StreetEdges::feedRefusesInOrder);
        e.says("9", "THE TEXT, which is empty then, is a STREET, and holds: its number.", StreetEdges::streetHolds);
        e.says("9", "FULL: there are 6 (THE TEXT stays)", StreetEdges::streetFull);
        e.says("9", "-10 less the FAULT (the one that held holds)", StreetEdges::streetFault);
        e.says("9", "-10 less the FAULT", StreetEdges::behindFaults);
    }

    private static void fault(Edges e, String text, int place) {
        e.is("street() of " + text, Due.street(new SnoozeRow(), text), -10 - place);
    }

    private static void well(Edges e, String text) {
        e.is("street() of " + text, Due.street(new SnoozeRow(), text), 0);
    }

    /** URGE of a SLEEPER alone is its SUM: 9, and 1 if the E holds. */
    private static void holds(Edges e, SnoozeRow x, String about, boolean is) {
        e.is("of(0, 5), " + about, x.of(0, 5), is ? 10 : 9);
    }

    private static String repeated(String first, String more, int times) {
        StringBuilder text = new StringBuilder(first);
        for (int i = 0; i < times; i++) {
            text.append(more);
        }
        return text.toString();
    }

    // ---- THE TEXT and its CLAUSES

    private static void hundredBytes(Edges e) {
        String hundred = repeated("late 10 p=1", "|p=1", 22) + "0";
        SnoozeRow x = new SnoozeRow();
        e.is("feed(), the hundredth", Due.feeds(x, hundred), 100);
        // with one more digit it were no STREET
        e.is("feed(), one more", x.feed('0'), FULL);
        e.is("count(5)", x.count(5), 100);
        e.is("street()", x.street(), 0);
    }

    private static void clauses(Edges e) {
        fault(e, "", 0);
        well(e, "bear 1");
        String nine = repeated("bear 1", ";bear 2", 8);
        well(e, nine);
        well(e, nine + ";bear 3");
        well(e, nine + ";late 3 p=0");
        fault(e, nine + ";bear 3;bear 4", 69);
        fault(e, nine + ";bear 3;", 69);
        fault(e, nine + ";late 3 p=0;bear 4", nine.length() + 11);
        fault(e, nine + ";", nine.length() + 1);
        fault(e, ";", 0);
        fault(e, ";bear 1", 0);
        fault(e, "bear 1;", 7);
        fault(e, "bear 1;;bear 1", 7);
        fault(e, "bear 1,bear 1", 6);
        fault(e, "bear 1bear 1", 6);
        SnoozeRow x = Due.row(0, 0);
        e.is("street() of ten", Due.street(x, repeated("late 1 p<1", ";soon 2 p<1", 1) + repeated("", ";bear 1", 7) + ";late 50 p=0"), 0);
        e.is("of(0, 5), the first and the tenth, too", x.of(0, 5), 9 + 1 - 2 + 50);
        e.is("told(1)", x.told(1), 1);
    }

    private static void words(Edges e) {
        well(e, "late 1 p=0");
        well(e, "soon 1 p=0");
        well(e, "bear 1");
        String[] words = {"late 1 p=0", "soon 1 p=0", "bear 1"};
        for (String word : words) {
            for (int at = 0; at < 5; at++) {
                fault(e, word.substring(0, at), at);
                fault(e, word.substring(0, at) + "?" + word.substring(at + 1), at);
                fault(e, word.substring(0, at) + word.substring(0, at), at);
            }
        }
        // a word that goes on as another one
        fault(e, "loon 1 p=0", 1);
        fault(e, "sate 1 p=0", 1);
        fault(e, "late 1", 6);
        fault(e, "late 1;bear 1", 6);
        fault(e, "soon 1 ", 7);
        fault(e, "bear 1 p=0", 6);
    }

    private static void blanks(Edges e) {
        fault(e, " late 1 p=1", 0);
        fault(e, "late1 p=1", 4);
        fault(e, "late  1 p=1", 5);
        fault(e, "late 1p=1", 6);
        fault(e, "late 1  p=1", 7);
        fault(e, "late 12p=1", 7);
        fault(e, "late 12  p=1", 8);
        fault(e, "late\t1 p=1", 4);
        fault(e, "late 1 p =1", 8);
        fault(e, "late 1 p= 1", 9);
        fault(e, "late 1 p=1 ", 10);
        fault(e, "late 1 p=1 |p=1", 10);
        fault(e, "late 1 ( p=1)", 8);
        fault(e, "late 1 (p=1 )", 11);
        fault(e, "late 1 ! p=1", 8);
        fault(e, "bear5", 4);
        fault(e, "bear  5", 5);
        fault(e, "bear 5 ", 6);
        fault(e, "bear 5 ;bear 5", 6);
        fault(e, "bear 5; bear 5", 7);
    }

    private static void digitsOfN(Edges e) {
        String[] words = {"late ", "soon "};
        for (String word : words) {
            fault(e, word, 5);
            fault(e, word + " p=0", 5);
            fault(e, word + "x p=0", 5);
            fault(e, word + "-1 p=0", 5);
            fault(e, word + "/ p=0", 5);
            fault(e, word + ": p=0", 5);
            well(e, word + "0 p=0");
            well(e, word + "00 p=0");
            well(e, word + "99 p=0");
            fault(e, word + "000 p=0", 7);
            fault(e, word + "100 p=0", 7);
        }
        fault(e, "bear ", 5);
        fault(e, "bear -1", 5);
        well(e, "bear 0");
        well(e, "bear 00");
        well(e, "bear 99");
        fault(e, "bear 100", 7);
        fault(e, "bear 1x", 6);
        int[] sums = {9, 9, 14, 14, 59, 108};
        String[] numbers = {"0", "00", "5", "05", "50", "99"};
        for (int i = 0; i < numbers.length; i++) {
            SnoozeRow x = Due.row(0, 0);
            Due.street(x, "late " + numbers[i] + " p=0");
            e.is("of(0, 5) of late " + numbers[i], x.of(0, 5), sums[i]);
        }
    }

    // ---- E, T, F and TESTS

    private static void either(Edges e) {
        well(e, "late 1 p=1|p=1");
        fault(e, "late 1 |p=1", 7);
        fault(e, "late 1 p=1|", 11);
        fault(e, "late 1 p=1||p=1", 11);
        fault(e, "late 1 p=1|;bear 1", 11);
        fault(e, "late 1 (p=1|)", 12);
        SnoozeRow x = Due.row(0, 0);
        Due.street(x, "late 1 p=0|p=1&p=1");
        holds(e, x, "T&T is nearer than |", true);
        Due.street(x, "late 1 p=1|p=1|p=0");
        holds(e, x, "the last T holds", true);
        Due.street(x, "late 1 p=1|p=1|p=1");
        holds(e, x, "no T holds", false);
    }

    private static void both(Edges e) {
        well(e, "late 1 p=1&p=1");
        fault(e, "late 1 &p=1", 7);
        fault(e, "late 1 p=1&", 11);
        fault(e, "late 1 p=1&&p=1", 11);
        fault(e, "late 1 p=1&|p=1", 11);
        fault(e, "late 1 p=1|&p=1", 11);
        fault(e, "late 1 p=1&;bear 1", 11);
        fault(e, "late 1 (p=1&)", 12);
        SnoozeRow x = Due.row(0, 0);
        Due.street(x, "late 1 p=1&p=1|p=0");
        holds(e, x, "T&T is nearer than |", true);
        Due.street(x, "late 1 p=0&p=0&p=1");
        holds(e, x, "the last F does not hold", false);
        Due.street(x, "late 1 p=0&p=0&p=0");
        holds(e, x, "each F holds", true);
    }

    private static void parts(Edges e) {
        fault(e, "late 1 ", 7);
        fault(e, "late 1 !", 8);
        fault(e, "late 1 !|p=1", 8);
        fault(e, "late 1 !)", 8);
        fault(e, "late 1 (", 8);
        fault(e, "late 1 ()", 8);
        fault(e, "late 1 (p=1", 11);
        fault(e, "late 1 (p=1;bear 1", 11);
        fault(e, "late 1 p=1)", 10);
        fault(e, "late 1 (p=1))", 12);
        fault(e, "late 1 p=1(p=1)", 10);
        fault(e, "late 1 p=1!p=1", 10);
        fault(e, "late 1 (p=1)(p=1)", 12);
        fault(e, "late 1 )p=1(", 7);
        SnoozeRow x = Due.row(0, 0);
        Due.street(x, "late 1 !p=1&p=1");
        holds(e, x, "! is of the F behind it alone", false);
        Due.street(x, "late 1 !(p=1&p=1)");
        holds(e, x, "! is of the ( ) behind it", true);
        Due.street(x, "late 1 (p=0|p=1)&p=1");
        holds(e, x, "( ) are nearer than &", false);
    }

    private static boolean among(String signs, char sign) {
        return signs.indexOf(sign) >= 0;
    }

    private static void testSigns(Edges e) {
        for (char sign = 0; sign <= 127; sign++) {
            String letter = "late 1 " + sign + "=1";
            if (among("pkvolm", sign)) {
                well(e, letter);
            } else {
                fault(e, letter, among("(!", sign) ? 8 : 7);
            }
            String compared = "late 1 p" + sign + "1";
            if (among("<=>", sign)) {
                well(e, compared);
            } else {
                fault(e, compared, 8);
            }
        }
        fault(e, "late 1 p", 8);
        fault(e, "late 1 p1", 8);
        fault(e, "late 1 p<=1", 9);
        fault(e, "late 1 pp=1", 8);
    }

    private static void digitsOfTests(Edges e) {
        for (char sign = 0; sign <= 127; sign++) {
            boolean digit = among("0123456789", sign);
            boolean goesOn = among("|&;", sign);
            if (digit) {
                well(e, "late 1 p=" + sign);
                well(e, "late 1 p=1" + sign);
            } else {
                fault(e, "late 1 p=" + sign, 9);
                fault(e, "late 1 p=1" + sign, goesOn ? 11 : 10);
            }
            fault(e, "late 1 p=12" + sign, goesOn ? 12 : 11);
        }
        fault(e, "late 1 p=", 9);
        SnoozeRow x = Due.row(0, 9);
        String[] hold = {"v=9", "v=09", "v<10", "v>08", "v<99", "v>0", "v>00"};
        for (String test : hold) {
            SnoozeRow y = Due.row(0, 9);
            Due.street(y, "late 1 " + test);
            holds(e, y, test, true);
        }
        Due.street(x, "late 1 v=90");
        holds(e, x, "v=90", false);
    }

    /** Whether a TEST holds for one who is third, of KIND 4, v 7, OWED 55, LIVED 30, at MORNING 13: each number. */
    private static void eachNumber(Edges e) {
        int[] values = {2, 4, 7, 5, 3, 3};
        for (int t = 0; t < 6; t++) {
            for (int n = 0; n <= 99; n++) {
                SnoozeRow x = Due.row(0, 0, 0, 0, 4, 7);
                x.away(0, true);
                x.away(1, true);
                x.pass(12);
                x.owe(2, 30);
                x.pass(1);
                x.owe(2, 55);
                String letter = "late 50 p=2&" + "pkvolm".charAt(t);
                Due.street(x, letter + "<" + n);
                e.is("of(2, 5), " + letter + "<" + n, x.of(2, 5), 16 + (values[t] < n ? 50 : 0));
                Due.street(x, letter + "=" + n);
                e.is("of(2, 5), " + letter + "=" + n, x.of(2, 5), 16 + (values[t] == n ? 50 : 0));
                Due.street(x, letter + ">" + n);
                e.is("of(2, 5), " + letter + ">" + n, x.of(2, 5), 16 + (values[t] > n ? 50 : 0));
            }
        }
    }

    private static void letters(Edges e) {
        SnoozeRow x = Due.row(6, 9, 0, 0, 1, 4, 1, 4, 1, 4, 6, 9);
        Due.street(x, "late 1 p=0;late 2 p>4;late 4 k>5;late 8 k<1;late 16 v=9;late 32 v<1");
        e.is("of(0, 5)", x.of(0, 5), 9 + 1 + 4 + 16);
        e.is("of(1, 5)", x.of(1, 5), 9 + 8 + 32);
        e.is("of(2, 5)", x.of(2, 5), 9 + 4);
        e.is("of(5, 5)", x.of(5, 5), 9 + 2 + 4 + 16);
    }

    private static void owed(Edges e, String test, int owed, boolean is) {
        SnoozeRow x = Due.row(0, 0);
        Due.street(x, "late 1 " + test);
        x.owe(0, owed);
        holds(e, x, test + " by " + owed, is);
    }

    private static void owedByTen(Edges e) {
        owed(e, "o<1", 0, true);
        owed(e, "o<1", 9, true);
        owed(e, "o<1", 10, false);
        owed(e, "o=1", 9, false);
        owed(e, "o=1", 10, true);
        owed(e, "o=1", 19, true);
        owed(e, "o=1", 20, false);
        owed(e, "o=99", 989, false);
        owed(e, "o=99", 990, true);
        owed(e, "o=99", 999, true);
        owed(e, "o=99", 1000, false);
        owed(e, "o>99", 999, false);
        owed(e, "o>99", 1000, true);
        owed(e, "o>99", 9999, true);
    }

    private static void livedByTen(Edges e) {
        int[] lived = {0, 9, 10, 19, 20, 29, 30};
        for (int n : lived) {
            SnoozeRow x = Due.row(0, 0);
            x.owe(0, n);
            x.pass(1);
            e.is("of(0, 3)", x.of(0, 3), n);
            Due.street(x, "late 1 l=1");
            holds(e, x, "l=1 by " + n, n == 10 || n == 19);
            Due.street(x, "late 1 l>1");
            holds(e, x, "l>1 by " + n, n >= 20);
            Due.street(x, "late 1 l<1");
            holds(e, x, "l<1 by " + n, n <= 9);
        }
    }

    private static void morningModuloTen(Edges e) {
        SnoozeRow x = Due.row(0, 0);
        Due.street(x, "late 10 m=0;late 20 m=9;late 40 m>9");
        for (int m = 0; m <= 31; m++) {
            e.is("of(0, 5) at " + m, x.of(0, 5), 9 + (m % 10 == 0 ? 10 : m % 10 == 9 ? 20 : 0));
            x.pass(1);
        }
    }

    private static void withinFour(Edges e) {
        well(e, "late 1 ((((p=1))))");
        well(e, "late 1 !!!!p=1");
        well(e, "late 1 (!(!p=1))");
        well(e, "late 1 !(!(p=1))");
        // one behind another is not within it
        well(e, "late 1 ((((p=1))))&((((p=1))))|!!!!p=1");
        well(e, "late 1 (((p=1)&(p=1)&!p=1)&!!p=1)&!!!!p=1");
        well(e, "late 1 ((((p=1))));late 1 ((((p=1))))");
        String[] openings = {"(((((", "!!!!!", "((((!", "!!!!(", "(!(!(", "!(!(!", "!!((!"};
        for (String opening : openings) {
            fault(e, "late 1 " + opening + "p=1", 11);
        }
        fault(e, "late 1 (((p=1&!(", 15);
        fault(e, "late 1 ((((p=1|!p=2))))", 15);
        fault(e, "bear 1;late 1 ((((p=1&(", 22);
    }

    // ---- the FAULT

    /** The Model looks at all ways in which a STREET may go on, and so at the sentence itself. */
    private static void firstByte(Edges e) {
        fault(e, "x", 0);
        fault(e, "lx", 1);
        fault(e, "?ear ?", 0);
        fault(e, "bear 1" + (char) 0, 6);
        fault(e, "BEAR 1", 0);
        for (int at = 0; at < GOOD.length(); at++) {
            for (char sign = 0; sign <= 127; sign++) {
                String text = GOOD.substring(0, at) + sign + GOOD.substring(at + 1);
                int due = Model.fault(text);
                e.is("street() of " + text, Due.street(new SnoozeRow(), text), due < 0 ? 0 : -10 - due);
            }
        }
    }

    private static void endsTooEarly(Edges e) {
        for (int end = 0; end < GOOD.length(); end++) {
            String text = GOOD.substring(0, end);
            // behind p=1, behind the ) and behind o=2 it may end
            if (end == 10 || end == 22 || end == 34) {
                well(e, text);
            } else {
                fault(e, text, end);
            }
        }
        fault(e, repeated("late 1 p=1", "|p=1", 22) + "|p", 100);
        fault(e, repeated("late 1 p=1", "|p=1", 22) + ";b", 100);
        fault(e, repeated("late 1 p=1", "|p=1", 22) + "0;", 100);
        fault(e, repeated("late 1 p=1", "|p=1", 22) + "|!", 100);
        fault(e, repeated("late 1 p=1", "|p=1", 22) + "&(", 100);
        fault(e, repeated("late 10 p=1", "|p=1", 21) + "|(p=1", 100);
        fault(e, repeated("late 10 p=1", "|p=1", 21) + ";bear", 100);
        fault(e, repeated("late 1 p=1", "|p=1", 21) + ";bear ", 100);
        fault(e, repeated("bear 7;late 1 p=1", "|p=1", 19) + ";late 1", 100);
        // what stood there in an earlier text is not of this one
        SnoozeRow x = new SnoozeRow();
        Due.street(x, "bear 77");
        e.is("street() of bear", Due.street(x, "bear"), -14);
        e.is("street() of none", x.street(), -10);
        e.is("street() of bear 7", Due.street(x, "bear 7"), 1);
        e.is("told(1)", x.told(1), 7);
    }

    // ---- which STREET holds, and what it says

    private static void newestHolds(Edges e) {
        SnoozeRow x = new SnoozeRow();
        for (int s = 0; s < 6; s++) {
            e.is("street()", Due.street(x, "bear 1" + s), s);
            e.is("told(1)", x.told(1), 10 + s);
        }
        e.is("street(), the seventh", Due.street(x, "bear 16"), FULL);
        e.is("told(1)", x.told(1), 15);
        e.is("count(1)", x.count(1), 6);
    }

    private static void withoutOne(Edges e) {
        SnoozeRow x = Due.row(0, 0);
        e.is("of(0, 5)", x.of(0, 5), 9);
        e.is("told(1)", x.told(1), 40);
        Due.street(x, "late 5 p=0;bear");
        e.is("of(0, 5) behind a FAULT", x.of(0, 5), 9);
        e.is("told(1) behind a FAULT", x.told(1), 40);
    }

    private static void bear(Edges e) {
        SnoozeRow x = new SnoozeRow();
        e.is("told(1) without a STREET", x.told(1), 40);
        Due.street(x, "late 1 p=0");
        e.is("told(1) without a bear", x.told(1), 40);
        Due.street(x, "bear 0");
        e.is("told(1) of bear 0", x.told(1), 0);
        Due.street(x, "bear 99");
        e.is("told(1) of bear 99", x.told(1), 99);
        Due.street(x, "bear 12;late 1 p=0;bear 7;soon 1 p=0");
        e.is("told(1) of two", x.told(1), 7);
        Due.street(x, "soon 1 p=0");
        e.is("told(1) without a bear, behind others", x.told(1), 40);
    }

    private static void sum(Edges e) {
        SnoozeRow x = Due.row(0, 0, 0, 0);
        Due.street(x, repeated("late 99 p=0", ";late 99 p=0", 7));
        e.is("of(0, 5)", x.of(0, 5), 9 + 8 * 99);
        e.is("of(1, 5), none holds", x.of(1, 5), 9);
        Due.street(x, repeated("soon 99 p=0", ";soon 99 p=0", 7));
        e.is("of(0, 5)", x.of(0, 5), 9 - 8 * 99);
        Due.street(x, "soon 9 p=0");
        e.is("of(0, 5)", x.of(0, 5), 0);
        Due.street(x, "soon 10 p=0");
        e.is("of(0, 5)", x.of(0, 5), -1);
        // together: it is not held at 0 in between
        Due.street(x, "soon 99 p=0;late 95 p=0");
        e.is("of(0, 5)", x.of(0, 5), 5);
    }

    // ---- promises 8 and 9

    private static void feeds(Edges e) {
        SnoozeRow x = new SnoozeRow();
        for (int sign = 0; sign < 100; sign++) {
            e.is("feed(" + sign + ")", x.feed(sign), sign + 1);
        }
        SnoozeRow y = new SnoozeRow();
        for (int sign = 100; sign <= 127; sign++) {
            e.is("feed(" + sign + ")", y.feed(sign), sign - 99);
        }
    }

    private static void feedBad(Edges e) {
        SnoozeRow x = new SnoozeRow();
        int[] bad = {-1, 128, 256 + 'b', MIN, MAX};
        for (int sign : bad) {
            e.is("feed(" + sign + ")", x.feed(sign), BAD);
        }
        e.is("count(5)", x.count(5), 0);
        e.is("bear 5 behind that", Due.street(x, "bear 5"), 0);
    }

    private static void feedFull(Edges e) {
        SnoozeRow x = new SnoozeRow();
        for (int i = 1; i <= 100; i++) {
            e.is("feed(32)", x.feed(32), i);
        }
        e.is("feed(32)", x.feed(32), FULL);
        e.is("count(5)", x.count(5), 100);
    }

    private static void feedRefusesInOrder(Edges e) {
        SnoozeRow x = new SnoozeRow();
        for (int i = 1; i <= 100; i++) {
            x.feed(32);
        }
        e.is("feed(128) full", x.feed(128), BAD);
        e.is("feed(-1) full", x.feed(-1), BAD);
        e.is("feed(127) full", x.feed(127), FULL);
    }

    private static void streetHolds(Edges e) {
        SnoozeRow x = new SnoozeRow();
        e.is("street() of bear 5", Due.street(x, "bear 5"), 0);
        e.is("count(5)", x.count(5), 0);
        e.is("told(1)", x.told(1), 5);
        e.is("feed('b')", x.feed('b'), 1);
        e.is("street() of bear 6", Due.street(x, "ear 6"), 1);
        e.is("told(1)", x.told(1), 6);
        e.is("count(1)", x.count(1), 2);
    }

    private static void streetFull(Edges e) {
        SnoozeRow x = new SnoozeRow();
        for (int s = 0; s < 6; s++) {
            Due.street(x, "bear 1" + s);
        }
        e.is("street() full, without a text", x.street(), FULL);
        e.is("street() full, of a STREET", Due.street(x, "bear 7"), FULL);
        e.is("count(5)", x.count(5), 6);
        e.is("street() full, with a FAULT", Due.street(x, "?"), FULL);
        e.is("count(5)", x.count(5), 7);
        e.is("feed(), behind it", x.feed('?'), 8);
        e.is("told(1)", x.told(1), 15);
        // THE IMAGE does not hold how many there are
        x.image();
        x.undo();
        e.is("street() full, behind undo()", x.street(), FULL);
    }

    private static void streetFault(Edges e) {
        SnoozeRow x = Due.row(0, 0);
        e.is("street() of none", x.street(), -10);
        e.is("told(1)", x.told(1), 40);
        Due.street(x, "bear 66;late 1 p=0");
        e.is("street() of bear 77;", Due.street(x, "bear 77;"), -18);
        e.is("count(5)", x.count(5), 0);
        e.is("told(1)", x.told(1), 66);
        e.is("of(0, 5)", x.of(0, 5), 10);
        e.is("count(1)", x.count(1), 1);
        e.is("street() of 100 that end too early", Due.street(x, repeated("late 10 p=1", "|p=1", 22) + "|"), -110);
        e.is("told(1)", x.told(1), 66);
        e.is("of(0, 5)", x.of(0, 5), 10);
        e.is("street(), the next", Due.street(x, "bear 3"), 1);
    }

    /** Nothing of a text that was none is in the next STREET, however many there were. */
    private static void behindFaults(Edges e) {
        SnoozeRow x = Due.row(0, 0);
        e.is("street()", Due.street(x, "late 50 p=0;late 50 p=0;bear 77;soon"), -46);
        e.is("street()", Due.street(x, "late 1 p=0"), 0);
        e.is("of(0, 5)", x.of(0, 5), 10);
        e.is("told(1)", x.told(1), 40);
        String hundred = repeated("late 10 p=1", "|p=1", 22) + "|";
        for (int i = 0; i < 3; i++) {
            e.is("street()", Due.street(x, hundred), -110);
        }
        e.is("street()", Due.street(x, "late 3 p=1|p=1|p=0;bear 5"), 1);
        e.is("of(0, 5)", x.of(0, 5), 12);
        e.is("told(1)", x.told(1), 5);
    }
}
