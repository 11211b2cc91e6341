/** Promises 30 to 33: TAPES. */
public final class TapesTest {
    private static final Due DUE = new Due();
    private static final int NOTHING = -11, CAST = -12, PLACE = -13, SIZE = -14;
    private static final int MAX = Integer.MAX_VALUE, MIN = Integer.MIN_VALUE;

    public static void main(String[] args) {
        tape();
        item();
        read();
        shift();
        shiftRefusals();
        DUE.end();
    }

    private static void tape() {
        DUE.promise("30 tape");
        SnoozeRow x = new SnoozeRow();
        DUE.is("tape(-1, 0, 0)", x.tape(-1, 0, 0), SnoozeRow.NONE);
        DUE.is("tape(6, 9, -1)", x.tape(6, 9, -1), SnoozeRow.NONE);
        DUE.is("tape(6, -1, 0)", x.tape(6, -1, 0), SnoozeRow.NONE);
        DUE.is("tape(0, -2, 0)", x.tape(0, -2, 0), SnoozeRow.BAD);
        DUE.is("tape(0, 5, -1)", x.tape(0, 5, -1), SnoozeRow.BAD);
        DUE.is("tape(0, 0, 61)", x.tape(0, 0, 61), SnoozeRow.BAD);
        DUE.is("tape(0, 0, max)", x.tape(0, 0, MAX), SnoozeRow.BAD);
        DUE.is("tape(0, 0, -1)", x.tape(0, 0, -1), SIZE);
        DUE.is("tape(0, 4, min)", x.tape(0, 4, MIN), SIZE);
        DUE.is("read(0, 0)", x.read(0, 0), SnoozeRow.NO);
        for (int sort = 0; sort < 5; sort++) {
            DUE.is("tape(5, sort, 60)", x.tape(5, sort, 60), 1);
            DUE.is("read(5, 0)", x.read(5, 0), 0);
            DUE.is("read(5, 59)", x.read(5, 59), 0);
            DUE.is("read(5, 60)", x.read(5, 60), SnoozeRow.NO);
            x.item(5, 59, 1);
            x.item(5, 0, 1);
        }
        DUE.is("tape(5, 9, 0)", x.tape(5, 9, 0), SnoozeRow.BAD);
        DUE.is("tape(5, 3, -1)", x.tape(5, 3, -1), SIZE);
        DUE.is("read(5, 59) is as it was", x.read(5, 59), 1);
        DUE.is("tape(5, 4, 2)", x.tape(5, 4, 2), 1);
        DUE.is("read(5, 0)", x.read(5, 0), 0);
        DUE.is("read(5, 2)", x.read(5, 2), SnoozeRow.NO);
        DUE.is("tape(5, 0, 0)", x.tape(5, 0, 0), 1);
        DUE.is("item(5, 0, 0)", x.item(5, 0, 0), PLACE);
        DUE.is("tape(5, -1, -9)", x.tape(5, -1, -9), 1);
        DUE.is("item(5, 0, 0)", x.item(5, 0, 0), NOTHING);
        DUE.is("tape(5, -1, 99)", x.tape(5, -1, 99), 1);
    }

    private static void item() {
        DUE.promise("31 item");
        SnoozeRow x = new SnoozeRow();
        for (int sort = 0; sort < 5; sort++) {
            x.tape(sort, sort, 3);
        }
        long[] values = {0, 1, -1, 127, 128, 255, 256, 32767, 32768, 65535, 65536, MAX, 1L << 31,
            (1L << 32) - 1, 1L << 32, Long.MAX_VALUE, Long.MIN_VALUE};
        for (long v : values) {
            for (int sort = 0; sort < 5; sort++) {
                DUE.is("item(" + sort + ", 1, " + v + ")", x.item(sort, 1, v), 1);
            }
            DUE.is("bytes, " + v, x.read(0, 1), (byte) v);
            DUE.is("shorts, " + v, x.read(1, 1), (short) v);
            DUE.is("ints, " + v, x.read(2, 1), (int) v);
            DUE.is("longs, " + v, x.read(3, 1), v);
            DUE.is("booleans, " + v, x.read(4, 1), v == 0 ? 0 : 1);
        }
        DUE.is("read(3, 0) is as it was", x.read(3, 0), 0);
        DUE.is("read(3, 2) is as it was", x.read(3, 2), 0);
        DUE.is("item(6, 0, 0)", x.item(6, 0, 0), SnoozeRow.NONE);
        DUE.is("item(-1, 0, 0)", x.item(-1, 0, 0), SnoozeRow.NONE);
        DUE.is("item(5, -1, 0)", x.item(5, -1, 0), NOTHING);
        int[] places = {-1, 3, MAX, MIN};
        for (int i : places) {
            DUE.is("item(3, " + i + ", 0)", x.item(3, i, 0), PLACE);
        }
    }

    private static void read() {
        DUE.promise("32 read");
        SnoozeRow x = new SnoozeRow();
        x.tape(2, 3, 2);
        x.item(2, 1, -7);
        DUE.is("read(2, 0)", x.read(2, 0), 0);
        DUE.is("read(2, 1)", x.read(2, 1), -7);
        DUE.is("read(2, 2)", x.read(2, 2), SnoozeRow.NO);
        DUE.is("read(2, -1)", x.read(2, -1), SnoozeRow.NO);
        DUE.is("read(2, max)", x.read(2, MAX), SnoozeRow.NO);
        DUE.is("read(2, min)", x.read(2, MIN), SnoozeRow.NO);
        DUE.is("read(1, 0)", x.read(1, 0), SnoozeRow.NO);
        DUE.is("read(6, 0)", x.read(6, 0), SnoozeRow.NO);
        DUE.is("read(-1, 0)", x.read(-1, 0), SnoozeRow.NO);
    }

    private static void row(SnoozeRow x, int tape, int... want) {
        for (int i = 0; i < want.length; i++) {
            DUE.is("read(" + tape + ", " + i + ")", x.read(tape, i), want[i]);
        }
    }

    private static SnoozeRow twoRows() {
        SnoozeRow x = new SnoozeRow();
        x.tape(0, 2, 5);
        x.tape(1, 2, 3);
        for (int i = 0; i < 5; i++) {
            x.item(0, i, i + 1);
        }
        return x;
    }

    private static void shift() {
        DUE.promise("33 shift");
        SnoozeRow x = twoRows();
        DUE.is("shift(0, 2, 1, 1, 2)", x.shift(0, 2, 1, 1, 2), 2);
        row(x, 1, 0, 3, 4);
        row(x, 0, 1, 2, 3, 4, 5);
        DUE.is("shift(0, 0, 0, 1, 4)", x.shift(0, 0, 0, 1, 4), 4);
        row(x, 0, 1, 1, 2, 3, 4);
        DUE.is("shift(0, 2, 0, 0, 3)", x.shift(0, 2, 0, 0, 3), 3);
        row(x, 0, 2, 3, 4, 3, 4);
        DUE.is("shift(0, 0, 0, 0, 5)", x.shift(0, 0, 0, 0, 5), 5);
        row(x, 0, 2, 3, 4, 3, 4);
        DUE.is("shift(0, 5, 1, 3, 0)", x.shift(0, 5, 1, 3, 0), 0);
        DUE.is("shift(1, 0, 0, 2, 3)", x.shift(1, 0, 0, 2, 3), 3);
        row(x, 0, 2, 3, 0, 3, 4);
    }

    private static void shiftRefusals() {
        DUE.promise("33 shift: refusals");
        SnoozeRow x = twoRows();
        x.tape(2, 3, 9);
        DUE.is("shift(-1, 0, 0, 0, -1)", x.shift(-1, 0, 0, 0, -1), SnoozeRow.NONE);
        DUE.is("shift(0, 0, 6, 0, 0)", x.shift(0, 0, 6, 0, 0), SnoozeRow.NONE);
        DUE.is("shift(5, 0, 6, 0, 0)", x.shift(5, 0, 6, 0, 0), SnoozeRow.NONE);
        DUE.is("shift(5, 0, 0, 0, -1)", x.shift(5, 0, 0, 0, -1), NOTHING);
        DUE.is("shift(0, 0, 5, 0, -1)", x.shift(0, 0, 5, 0, -1), NOTHING);
        DUE.is("shift(5, 0, 5, 0, 0)", x.shift(5, 0, 5, 0, 0), NOTHING);
        DUE.is("shift(0, -1, 2, 0, 1)", x.shift(0, -1, 2, 0, 1), CAST);
        DUE.is("shift(2, 0, 0, 0, 0)", x.shift(2, 0, 0, 0, 0), CAST);
        int[][] places = {{0, 0, -1}, {-1, 0, 1}, {0, -1, 1}, {-1, 0, 0}, {0, -1, 0}, {0, 0, 4},
            {3, 0, 3}, {6, 0, 0}, {0, 4, 0}, {0, 1, 3}, {MAX, 0, MAX}, {0, MAX, MAX}, {1, 1, MAX},
            {MAX, MAX, 0}, {MIN, 0, 0}, {0, MIN, 0}, {0, 0, MIN}, {MAX, 0, 1}, {0, MAX, 1}};
        for (int[] p : places) {
            String call = "shift(0, " + p[0] + ", 1, " + p[1] + ", " + p[2] + ")";
            DUE.is(call, x.shift(0, p[0], 1, p[1], p[2]), PLACE);
        }
        row(x, 0, 1, 2, 3, 4, 5);
        row(x, 1, 0, 0, 0);
    }
}
