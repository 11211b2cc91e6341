/** Boundary cases of TAPES and of what is JUDGED by them: the Terms' third part, promises 23 and 30 to 33. */
final class TapeEdges {
    private static final int NONE = SnoozeRow.NONE, BAD = SnoozeRow.BAD;
    private static final int NOTHING = -11, CAST = -12, PLACE = -13, SIZE = -14;
    private static final int MIN = Integer.MIN_VALUE, MAX = Integer.MAX_VALUE;
    private static final long NO = SnoozeRow.NO;

    static void all(Edges e) {
        e.says("Terms", "TAPES 0 .. 5 hold nothing (at first)", TapeEdges::nothingAtFirst);
        e.says("Terms", "or a row of 0 bytes, 1 shorts, 2 ints, 3 longs, 4 booleans (items 0, 1)", TapeEdges::sorts);
        judged(e);
        e.says("Terms", "NOTHING (-11): nothing is there", TapeEdges::nothingIsThere);
        e.says("Terms", "CAST (-12): another sort or KIND", TapeEdges::anotherSort);
        e.says("Terms", "PLACE (-13): no such place", TapeEdges::noSuchPlace);
        e.says("Terms", "SIZE (-14): a size below 0", TapeEdges::sizeBelow0);
        e.says("23", "JUDGED from place i of a TAPE on.", TapeEdges::judgedFromAPlace);
        e.says("23", "NONE: tape", TapeEdges::judgeNone);
        e.says("23", "CAST: it is no row of ints.", TapeEdges::judgeCast);
        tape(e);
        item(e);
        e.says("32", "Item i of a TAPE.", TapeEdges::reads);
        e.says("32", "NO: no such TAPE,", TapeEdges::readNoTape);
        e.says("32", "nothing there,", TapeEdges::readNothing);
        e.says("32", "no such place.", TapeEdges::readNoPlace);
        shift(e);
    }

    private static void judged(Edges e) {
        e.says("Terms", "is JUDGED: the first that is otherwise;", TapeEdges::judgedFirst);
        e.says("Terms", "-5: none, or there are no SLEEPERS;", TapeEdges::judgedNone);
        e.says("Terms", "100 and how many were looked at, if the row ends ahead of that", TapeEdges::judgedRowEnds);
        e.says("Terms", "(or the place is below 0,", TapeEdges::judgedPlaceBelow0);
        e.says("Terms", "or the TAPE holds nothing)", TapeEdges::judgedByNothing);
    }

    private static void tape(Edges e) {
        e.says("30", "A TAPE becomes a row of n (0 .. 60) of a sort, all 0,", TapeEdges::rowOfN);
        e.says("30", "or holds nothing (sort -1: n does not matter): 1.", TapeEdges::holdsNothing);
        e.says("30", "NONE: tape", TapeEdges::tapeNone);
        e.says("30", "BAD: sort,", TapeEdges::tapeBadSort);
        e.says("30", "n above 60", TapeEdges::tapeTooLong);
        e.says("30", "SIZE.", TapeEdges::tapeSize);
        e.says("30", "NONE: tape; BAD: sort, n above 60; SIZE.", TapeEdges::tapeRefusesInOrder);
    }

    private static void item(Edges e) {
        e.says("31", "Item i of a TAPE becomes v (its lowest bits, as many as an item has;", TapeEdges::lowestBits);
        e.says("31", "booleans: whether v is not 0): 1.", TapeEdges::booleans);
        e.says("31", "NONE;", TapeEdges::itemNone);
        e.says("31", "NOTHING;", TapeEdges::itemNothing);
        e.says("31", "PLACE.", TapeEdges::itemPlace);
        e.says("31", "NONE; NOTHING; PLACE.", TapeEdges::itemRefusesInOrder);
    }

    private static void shift(Edges e) {
        e.says("33", "n items of a TAPE from i on come to another one", TapeEdges::shiftsToAnother);
        e.says("33", "(or the same) from j on, as they all were before: n.", TapeEdges::shiftsWithin);
        e.says("33", "NONE: tapes", TapeEdges::shiftNone);
        e.says("33", "NOTHING;", TapeEdges::shiftNothing);
        e.says("33", "CAST: of unlike sorts", TapeEdges::shiftCast);
        e.says("33", "PLACE: n, i or j is below 0,", TapeEdges::shiftBelow0);
        e.says("33", "or beyond either's end.", TapeEdges::shiftBeyond);
        e.says("33", "NONE: tapes; NOTHING; CAST: of unlike sorts; PLACE: n, i or j is below 0, or beyond either's end.",
            TapeEdges::shiftRefusesInOrder);
    }

    // ---- TAPES

    private static void nothingAtFirst(Edges e) {
        SnoozeRow x = new SnoozeRow();
        for (int tape = 0; tape <= 5; tape++) {
            e.is("item(" + tape + ", 0, 1)", x.item(tape, 0, 1), NOTHING);
            e.is("read(" + tape + ", 0)", x.read(tape, 0), NO);
        }
        e.is("tape(0, 0, 1)", x.tape(0, 0, 1), 1);
        e.is("tape(5, 0, 1)", x.tape(5, 0, 1), 1);
        e.is("item(4, 0, 1)", x.item(4, 0, 1), NOTHING);
        e.is("item(5, 0, 1)", x.item(5, 0, 1), 1);
    }

    private static void sorts(Edges e) {
        long[] most = {127, 32767, MAX, Long.MAX_VALUE, 1};
        long[] least = {-128, -32768, MIN, Long.MIN_VALUE, 0};
        for (int sort = 0; sort <= 4; sort++) {
            SnoozeRow x = new SnoozeRow();
            x.tape(0, sort, 2);
            x.item(0, 0, most[sort]);
            x.item(0, 1, least[sort]);
            e.is("read(0, 0) of sort " + sort, x.read(0, 0), most[sort]);
            e.is("read(0, 1) of sort " + sort, x.read(0, 1), least[sort]);
        }
    }

    // ---- JUDGED

    /** Three who OWE 10, 11 and 12, and a row of ints. */
    private static SnoozeRow judged(long... items) {
        SnoozeRow x = Due.row(0, 0, 0, 0, 0, 0);
        for (int p = 0; p < 3; p++) {
            x.owe(p, 10 + p);
        }
        x.tape(1, 2, items.length);
        for (int i = 0; i < items.length; i++) {
            x.item(1, i, items[i]);
        }
        return x;
    }

    private static void judgedFirst(Edges e) {
        e.is("judge(1, 0)", judged(9, 11, 12).judge(1, 0), 0);
        e.is("judge(1, 0)", judged(10, 10, 10).judge(1, 0), 1);
        e.is("judge(1, 0)", judged(10, 11, -12).judge(1, 0), 2);
        e.is("judge(1, 0), the row ends behind it", judged(10, 9).judge(1, 0), 1);
        e.is("judge(1, 0), of two the first", judged(9, 9, 9).judge(1, 0), 0);
    }

    private static void judgedNone(Edges e) {
        e.is("judge(1, 0)", judged(10, 11, 12).judge(1, 0), -5);
        e.is("judge(1, 0), what is behind does not matter", judged(10, 11, 12, 9).judge(1, 0), -5);
        SnoozeRow x = new SnoozeRow();
        x.tape(1, 2, 3);
        int[] places = {0, 2, 3, -1, MIN, MAX};
        for (int i : places) {
            e.is("judge(1, " + i + "), no SLEEPERS", x.judge(1, i), -5);
            e.is("judge(0, " + i + "), no SLEEPERS", x.judge(0, i), -5);
        }
    }

    private static void judgedRowEnds(Edges e) {
        e.is("judge(1, 0), of none", judged().judge(1, 0), 100);
        e.is("judge(1, 0), of one", judged(10).judge(1, 0), 101);
        e.is("judge(1, 0), of two", judged(10, 11).judge(1, 0), 102);
        SnoozeRow x = judged(10, 11, 12);
        e.is("judge(1, 3), the end", x.judge(1, 3), 100);
        e.is("judge(1, 4), beyond", x.judge(1, 4), 100);
        e.is("judge(1, max)", x.judge(1, MAX), 100);
        e.is("judge(1, max - 1)", x.judge(1, MAX - 1), 100);
        SnoozeRow six = Due.row(0, 0, 0, 0, 0, 0, 0, 0, 0, 0, 0, 0);
        six.tape(1, 2, 60);
        e.is("judge(1, 54)", six.judge(1, 54), -5);
        for (int i = 55; i <= 60; i++) {
            e.is("judge(1, " + i + ")", six.judge(1, i), 100 + 60 - i);
        }
    }

    private static void judgedPlaceBelow0(Edges e) {
        SnoozeRow x = judged(10, 11, 12);
        int[] below = {-1, -2, -3, MIN, MIN + 1};
        for (int i : below) {
            e.is("judge(1, " + i + ")", x.judge(1, i), 100);
        }
    }

    private static void judgedByNothing(Edges e) {
        SnoozeRow x = judged(10, 11, 12);
        int[] places = {0, 1, -1, MAX, MIN};
        for (int i : places) {
            e.is("judge(0, " + i + ")", x.judge(0, i), 100);
        }
        x.tape(1, -1, 0);
        e.is("judge(1, 0)", x.judge(1, 0), 100);
    }

    private static void judgedFromAPlace(Edges e) {
        SnoozeRow x = judged(7, 10, 11, 12);
        e.is("judge(1, 0)", x.judge(1, 0), 0);
        e.is("judge(1, 1)", x.judge(1, 1), -5);
        x.item(1, 3, 0);
        e.is("judge(1, 1), the SLEEPER's number", x.judge(1, 1), 2);
        e.is("read(1, 3)", x.read(1, 3), 0);
        e.is("of(2, 2)", x.of(2, 2), 12);
    }

    private static void judgeNone(Edges e) {
        SnoozeRow x = judged(10, 11, 12);
        int[] none = {-1, 6, MIN, MAX};
        for (int tape : none) {
            e.is("judge(" + tape + ", 0)", x.judge(tape, 0), NONE);
            e.is("judge(" + tape + ", 0), no SLEEPERS", new SnoozeRow().judge(tape, 0), NONE);
        }
    }

    private static void judgeCast(Edges e) {
        int[] others = {0, 1, 3, 4};
        for (int sort : others) {
            SnoozeRow x = judged();
            x.tape(1, sort, 3);
            e.is("judge(1, 0) of sort " + sort, x.judge(1, 0), CAST);
            e.is("judge(1, -1) of sort " + sort, x.judge(1, -1), CAST);
            x.tape(1, sort, 0);
            e.is("judge(1, 0) of no items of sort " + sort, x.judge(1, 0), CAST);
        }
    }

    // ---- the host's refusals

    private static void nothingIsThere(Edges e) {
        SnoozeRow x = new SnoozeRow();
        x.tape(1, 0, 1);
        e.is("item(0, 0, 0)", x.item(0, 0, 0), -11);
        e.is("shift(0, 0, 1, 0, 0)", x.shift(0, 0, 1, 0, 0), -11);
        e.is("shift(1, 0, 0, 0, 0)", x.shift(1, 0, 0, 0, 0), -11);
        e.is("taken(0, 0)", x.taken(0, 0), -11);
    }

    private static void anotherSort(Edges e) {
        SnoozeRow x = Due.row(0, 0);
        x.tape(0, 0, 1);
        x.tape(1, 1, 1);
        e.is("shift(0, 0, 1, 0, 1)", x.shift(0, 0, 1, 0, 1), -12);
        e.is("judge(0, 0)", x.judge(0, 0), -12);
        e.is("taken(0, 1)", x.taken(0, 1), -12);
    }

    private static void noSuchPlace(Edges e) {
        SnoozeRow x = new SnoozeRow();
        x.tape(0, 0, 1);
        e.is("item(0, 1, 0)", x.item(0, 1, 0), -13);
        e.is("item(0, -1, 0)", x.item(0, -1, 0), -13);
        e.is("shift(0, 0, 0, 1, 1)", x.shift(0, 0, 0, 1, 1), -13);
    }

    private static void sizeBelow0(Edges e) {
        SnoozeRow x = new SnoozeRow();
        e.is("tape(0, 0, -1)", x.tape(0, 0, -1), -14);
        e.is("tape(0, 0, 0)", x.tape(0, 0, 0), 1);
    }

    // ---- promise 30

    private static void rowOfN(Edges e) {
        for (int sort = 0; sort <= 4; sort++) {
            SnoozeRow x = new SnoozeRow();
            e.is("tape(0, sort, 60)", x.tape(0, sort, 60), 1);
            for (int i = 0; i < 60; i++) {
                e.is("read(0, " + i + ")", x.read(0, i), 0);
                x.item(0, i, 1);
            }
            e.is("read(0, 60)", x.read(0, 60), NO);
            e.is("tape(0, sort, 60) once more", x.tape(0, sort, 60), 1);
            e.is("read(0, 0)", x.read(0, 0), 0);
            e.is("read(0, 59)", x.read(0, 59), 0);
            x.item(0, 0, 1);
            e.is("tape(0, sort, 0)", x.tape(0, sort, 0), 1);
            e.is("read(0, 0)", x.read(0, 0), NO);
            e.is("item(0, 0, 1): a row is there, without a place", x.item(0, 0, 1), PLACE);
            e.is("tape(0, sort, 1)", x.tape(0, sort, 1), 1);
            e.is("read(0, 0)", x.read(0, 0), 0);
        }
    }

    private static void holdsNothing(Edges e) {
        SnoozeRow x = new SnoozeRow();
        int[] any = {0, 1, 60, 61, -1, MIN, MAX};
        for (int n : any) {
            x.tape(0, 2, 1);
            e.is("tape(0, -1, " + n + ")", x.tape(0, -1, n), 1);
            e.is("item(0, 0, 1)", x.item(0, 0, 1), NOTHING);
            e.is("tape(0, -1, " + n + ") once more", x.tape(0, -1, n), 1);
        }
        x.tape(0, 2, 1);
        e.is("read(0, 0)", x.read(0, 0), 0);
    }

    private static void tapeNone(Edges e) {
        SnoozeRow x = new SnoozeRow();
        int[] none = {-1, 6, MIN, MAX};
        for (int tape : none) {
            e.is("tape(" + tape + ", 0, 0)", x.tape(tape, 0, 0), NONE);
            e.is("tape(" + tape + ", -1, 0)", x.tape(tape, -1, 0), NONE);
        }
    }

    private static void tapeBadSort(Edges e) {
        SnoozeRow x = new SnoozeRow();
        int[] bad = {-2, 5, MIN, MAX};
        for (int sort : bad) {
            e.is("tape(0, " + sort + ", 0)", x.tape(0, sort, 0), BAD);
        }
        e.is("item(0, 0, 0)", x.item(0, 0, 0), NOTHING);
    }

    private static void tapeTooLong(Edges e) {
        SnoozeRow x = new SnoozeRow();
        for (int sort = 0; sort <= 4; sort++) {
            e.is("tape(0, " + sort + ", 61)", x.tape(0, sort, 61), BAD);
            e.is("tape(0, " + sort + ", max)", x.tape(0, sort, MAX), BAD);
        }
        e.is("item(0, 0, 0)", x.item(0, 0, 0), NOTHING);
    }

    private static void tapeSize(Edges e) {
        SnoozeRow x = new SnoozeRow();
        x.tape(0, 2, 1);
        x.item(0, 0, 7);
        for (int sort = 0; sort <= 4; sort++) {
            e.is("tape(0, " + sort + ", -1)", x.tape(0, sort, -1), SIZE);
            e.is("tape(0, " + sort + ", min)", x.tape(0, sort, MIN), SIZE);
        }
        e.is("read(0, 0)", x.read(0, 0), 7);
    }

    private static void tapeRefusesInOrder(Edges e) {
        SnoozeRow x = new SnoozeRow();
        e.is("tape(6, 5, 61)", x.tape(6, 5, 61), NONE);
        e.is("tape(6, 0, -1)", x.tape(6, 0, -1), NONE);
        e.is("tape(0, 5, -1)", x.tape(0, 5, -1), BAD);
        e.is("tape(0, -2, -1)", x.tape(0, -2, -1), BAD);
    }

    // ---- promises 31 and 32

    private static void lowestBits(Edges e) {
        SnoozeRow x = new SnoozeRow();
        for (int sort = 0; sort <= 3; sort++) {
            x.tape(sort, sort, 1);
        }
        long[][] vAndItems = {{127, 127, 127, 127}, {128, -128, 128, 128}, {255, -1, 255, 255}, {256, 0, 256, 256},
            {-129, 127, -129, -129}, {32767, -1, 32767, 32767}, {32768, 0, -32768, 32768}, {65536, 0, 0, 65536},
            {-32769, -1, 32767, -32769}, {2147483647L, -1, -1, 2147483647L}, {2147483648L, 0, 0, -2147483648L},
            {4294967296L, 0, 0, 0}, {-2147483649L, -1, -1, 2147483647L}, {Long.MAX_VALUE, -1, -1, -1},
            {Long.MIN_VALUE, 0, 0, 0}, {-1, -1, -1, -1}};
        for (long[] want : vAndItems) {
            for (int sort = 0; sort <= 3; sort++) {
                e.is("item(" + sort + ", 0, " + want[0] + ")", x.item(sort, 0, want[0]), 1);
                e.is("read(" + sort + ", 0)", x.read(sort, 0), sort == 3 ? want[0] : want[sort + 1]);
            }
        }
    }

    private static void booleans(Edges e) {
        SnoozeRow x = new SnoozeRow();
        x.tape(0, 4, 1);
        long[] not0 = {1, 2, -1, 256, 65536, 4294967296L, Long.MIN_VALUE, Long.MAX_VALUE};
        for (long v : not0) {
            e.is("item(0, 0, " + v + ")", x.item(0, 0, v), 1);
            e.is("read(0, 0)", x.read(0, 0), 1);
            e.is("item(0, 0, 0)", x.item(0, 0, 0), 1);
            e.is("read(0, 0)", x.read(0, 0), 0);
        }
    }

    private static void itemNone(Edges e) {
        SnoozeRow x = new SnoozeRow();
        int[] none = {-1, 6, MIN, MAX};
        for (int tape : none) {
            e.is("item(" + tape + ", 0, 0)", x.item(tape, 0, 0), NONE);
        }
    }

    private static void itemNothing(Edges e) {
        SnoozeRow x = new SnoozeRow();
        e.is("item(5, 0, 1)", x.item(5, 0, 1), NOTHING);
        x.tape(5, 3, 1);
        e.is("item(5, 0, 1)", x.item(5, 0, 1), 1);
        x.tape(5, -1, 1);
        e.is("item(5, 0, 1)", x.item(5, 0, 1), NOTHING);
    }

    private static void itemPlace(Edges e) {
        SnoozeRow x = new SnoozeRow();
        x.tape(0, 3, 3);
        int[] none = {-1, 3, 59, 60, MIN, MAX};
        for (int i : none) {
            e.is("item(0, " + i + ", 1)", x.item(0, i, 1), PLACE);
        }
        e.is("item(0, 0, 5)", x.item(0, 0, 5), 1);
        e.is("item(0, 2, 7)", x.item(0, 2, 7), 1);
        e.is("read(0, 0)", x.read(0, 0), 5);
        e.is("read(0, 1)", x.read(0, 1), 0);
        e.is("read(0, 2)", x.read(0, 2), 7);
    }

    private static void itemRefusesInOrder(Edges e) {
        SnoozeRow x = new SnoozeRow();
        e.is("item(6, -1, 0)", x.item(6, -1, 0), NONE);
        e.is("item(0, -1, 0)", x.item(0, -1, 0), NOTHING);
    }

    private static void reads(Edges e) {
        SnoozeRow x = new SnoozeRow();
        x.tape(5, 3, 60);
        x.item(5, 0, Long.MAX_VALUE);
        x.item(5, 59, -1);
        e.is("read(5, 0)", x.read(5, 0), Long.MAX_VALUE);
        e.is("read(5, 58)", x.read(5, 58), 0);
        e.is("read(5, 59)", x.read(5, 59), -1);
        e.is("read(5, 59) once more", x.read(5, 59), -1);
    }

    private static void readNoTape(Edges e) {
        SnoozeRow x = new SnoozeRow();
        for (int tape = 0; tape <= 5; tape++) {
            x.tape(tape, 0, 1);
        }
        int[] none = {-1, 6, MIN, MAX};
        for (int tape : none) {
            e.is("read(" + tape + ", 0)", x.read(tape, 0), NO);
        }
    }

    private static void readNothing(Edges e) {
        SnoozeRow x = new SnoozeRow();
        e.is("read(0, 0)", x.read(0, 0), NO);
        x.tape(0, 0, 9);
        e.is("read(0, 0)", x.read(0, 0), 0);
        x.tape(0, -1, 9);
        e.is("read(0, 0)", x.read(0, 0), NO);
    }

    private static void readNoPlace(Edges e) {
        SnoozeRow x = new SnoozeRow();
        x.tape(0, 0, 3);
        int[] none = {-1, 3, 59, 60, MIN, MAX};
        for (int i : none) {
            e.is("read(0, " + i + ")", x.read(0, i), NO);
        }
        x.tape(0, 0, 0);
        e.is("read(0, 0) of no items", x.read(0, 0), NO);
    }

    // ---- promise 33

    /** TAPE 0: 1 2 3 4 5, TAPE 1: 0 0 0. */
    private static SnoozeRow twoRows() {
        SnoozeRow x = new SnoozeRow();
        x.tape(0, 2, 5);
        x.tape(1, 2, 3);
        for (int i = 0; i < 5; i++) {
            x.item(0, i, i + 1);
        }
        return x;
    }

    private static void row(Edges e, SnoozeRow x, int tape, int... want) {
        for (int i = 0; i < want.length; i++) {
            e.is("read(" + tape + ", " + i + ")", x.read(tape, i), want[i]);
        }
        e.is("read(" + tape + ", " + want.length + ")", x.read(tape, want.length), NO);
    }

    private static void shiftsToAnother(Edges e) {
        SnoozeRow x = twoRows();
        e.is("shift(0, 2, 1, 0, 3), both to their ends", x.shift(0, 2, 1, 0, 3), 3);
        row(e, x, 1, 3, 4, 5);
        row(e, x, 0, 1, 2, 3, 4, 5);
        e.is("shift(0, 0, 1, 2, 1)", x.shift(0, 0, 1, 2, 1), 1);
        row(e, x, 1, 3, 4, 1);
        e.is("shift(0, 0, 1, 0, 0), none", x.shift(0, 0, 1, 0, 0), 0);
        e.is("shift(0, 5, 1, 3, 0), none from both ends", x.shift(0, 5, 1, 3, 0), 0);
        row(e, x, 1, 3, 4, 1);
        for (int sort = 0; sort <= 4; sort++) {
            SnoozeRow y = new SnoozeRow();
            y.tape(2, sort, 60);
            y.tape(5, sort, 60);
            y.item(2, 59, 1);
            e.is("shift(2, 0, 5, 0, 60)", y.shift(2, 0, 5, 0, 60), 60);
            e.is("read(5, 59)", y.read(5, 59), 1);
        }
    }

    private static void shiftsWithin(Edges e) {
        SnoozeRow x = twoRows();
        e.is("shift(0, 0, 0, 1, 4)", x.shift(0, 0, 0, 1, 4), 4);
        row(e, x, 0, 1, 1, 2, 3, 4);
        SnoozeRow y = twoRows();
        e.is("shift(0, 1, 0, 0, 4)", y.shift(0, 1, 0, 0, 4), 4);
        row(e, y, 0, 2, 3, 4, 5, 5);
        e.is("shift(0, 0, 0, 0, 5)", y.shift(0, 0, 0, 0, 5), 5);
        row(e, y, 0, 2, 3, 4, 5, 5);
        e.is("shift(0, 5, 0, 5, 0)", y.shift(0, 5, 0, 5, 0), 0);
    }

    private static void shiftNone(Edges e) {
        SnoozeRow x = twoRows();
        int[] none = {-1, 6, MIN, MAX};
        for (int tape : none) {
            e.is("shift(" + tape + ", 0, 0, 0, 1)", x.shift(tape, 0, 0, 0, 1), NONE);
            e.is("shift(0, 0, " + tape + ", 0, 1)", x.shift(0, 0, tape, 0, 1), NONE);
        }
    }

    private static void shiftNothing(Edges e) {
        SnoozeRow x = twoRows();
        e.is("shift(5, 0, 0, 0, 1)", x.shift(5, 0, 0, 0, 1), NOTHING);
        e.is("shift(0, 0, 5, 0, 1)", x.shift(0, 0, 5, 0, 1), NOTHING);
        e.is("shift(5, 0, 5, 0, 0)", x.shift(5, 0, 5, 0, 0), NOTHING);
        row(e, x, 0, 1, 2, 3, 4, 5);
    }

    private static void shiftCast(Edges e) {
        for (int sort = 0; sort <= 4; sort++) {
            for (int other = 0; other <= 4; other++) {
                SnoozeRow x = new SnoozeRow();
                x.tape(0, sort, 2);
                x.tape(1, other, 2);
                e.is("shift(0, 0, 1, 0, 2) of " + sort + " to " + other, x.shift(0, 0, 1, 0, 2), sort == other ? 2 : CAST);
                e.is("shift(0, 0, 1, 0, 0) of " + sort + " to " + other, x.shift(0, 0, 1, 0, 0), sort == other ? 0 : CAST);
            }
        }
    }

    private static void places(Edges e, int[][] places) {
        SnoozeRow x = twoRows();
        for (int[] p : places) {
            String call = "shift(0, " + p[0] + ", 1, " + p[1] + ", " + p[2] + ")";
            e.is(call, x.shift(0, p[0], 1, p[1], p[2]), PLACE);
        }
        row(e, x, 0, 1, 2, 3, 4, 5);
        row(e, x, 1, 0, 0, 0);
    }

    private static void shiftBelow0(Edges e) {
        places(e, new int[][] {{0, 0, -1}, {1, 1, -1}, {5, 3, -1}, {-1, 0, 0}, {-1, 0, 1}, {0, -1, 0}, {0, -1, 1},
            {MIN, 0, 0}, {0, MIN, 0}, {0, 0, MIN}, {MIN, MIN, MIN}, {-1, -1, 1}});
    }

    private static void shiftBeyond(Edges e) {
        places(e, new int[][] {{0, 0, 4}, {0, 0, 6}, {3, 0, 3}, {5, 0, 1}, {6, 0, 0}, {0, 4, 0}, {0, 3, 1}, {0, 1, 3},
            {MAX, 0, 0}, {0, MAX, 0}, {0, 0, MAX}, {1, 0, MAX}, {0, 1, MAX}, {MAX, MAX, MAX}, {MAX, 0, 1}, {0, MAX, 1}});
    }

    private static void shiftRefusesInOrder(Edges e) {
        SnoozeRow x = twoRows();
        x.tape(2, 3, 2);
        e.is("shift(5, 0, 6, 0, -1)", x.shift(5, 0, 6, 0, -1), NONE);
        e.is("shift(6, 0, 5, 0, -1)", x.shift(6, 0, 5, 0, -1), NONE);
        e.is("shift(5, 0, 0, 0, -1)", x.shift(5, 0, 0, 0, -1), NOTHING);
        e.is("shift(2, 0, 5, -1, 0)", x.shift(2, 0, 5, -1, 0), NOTHING);
        e.is("shift(0, -1, 2, 0, 0)", x.shift(0, -1, 2, 0, 0), CAST);
        e.is("shift(2, 0, 0, 9, 9)", x.shift(2, 0, 0, 9, 9), CAST);
    }
}
