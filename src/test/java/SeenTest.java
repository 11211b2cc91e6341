/** Promises 15 to 18, and OWES of promise 3: SEEN, CAN, ODDS and MEAN. */
public final class SeenTest {
    private static final Due DUE = new Due();
    private static final long NO = SnoozeRow.NO;

    public static void main(String[] args) {
        see();
        owes();
        can();
        odds();
        mean();
        DUE.end();
    }

    private static void see() {
        DUE.promise("15 see");
        SnoozeRow x = Due.row(0, 0, 0, 0);
        DUE.is("see(2, 0, 0)", x.see(2, 0, 0), SnoozeRow.NONE);
        DUE.is("see(-2, 0, 0)", x.see(-2, 0, 0), SnoozeRow.NONE);
        DUE.is("see(2, 13, 100)", x.see(2, 13, 100), SnoozeRow.NONE);
        DUE.is("see(0, -1, 0)", x.see(0, -1, 0), SnoozeRow.BAD);
        DUE.is("see(0, 13, 0)", x.see(0, 13, 0), SnoozeRow.BAD);
        DUE.is("see(0, 0, -1)", x.see(0, 0, -1), SnoozeRow.BAD);
        DUE.is("see(0, 0, 100)", x.see(0, 0, 100), SnoozeRow.BAD);
        DUE.is("count(2)", x.count(2), 0);
        DUE.is("see(0, 12, 99)", x.see(0, 12, 99), 1);
        DUE.is("see(1, 0, 0)", x.see(1, 0, 0), 2);
        for (int i = 3; i <= 5; i++) {
            DUE.is("see(0, 0, 0)", x.see(0, 0, 0), i);
        }
        DUE.is("see(0, 0, 0)", x.see(0, 0, 0), SnoozeRow.FULL);
        DUE.is("see(0, 13, 0)", x.see(0, 13, 0), SnoozeRow.BAD);
        DUE.is("see(2, 0, 0)", x.see(2, 0, 0), SnoozeRow.NONE);
        DUE.is("count(2)", x.count(2), 5);
        DUE.is("see(-1, 99, -99)", x.see(-1, 99, -99), 0);
        DUE.is("count(2)", x.count(2), 0);
        DUE.is("see(1, 1, 1)", x.see(1, 1, 1), 1);
    }

    private static void owes(SnoozeRow x, int p, int many, int least) {
        DUE.is("of(" + p + ", 7)", x.of(p, 7), many);
        DUE.is("of(" + p + ", 8)", x.of(p, 8), least);
    }

    private static void owes() {
        DUE.promise("3 of: OWES");
        SnoozeRow x = Due.row(0, 0, 0, 0, 0, 0);
        x.owe(1, 50);
        owes(x, 1, 100, 0);
        x.see(1, 1, 0);
        // 9 come from 0, 30 are done: 0 .. 21 leave nothing
        owes(x, 1, 22, 0);
        // 50 and 9, less 30, are not 0, whatever the others owe, but by what 0 can't bear
        owes(x, 0, 0, -5);
        owes(x, 2, 0, -5);
        x.see(-1, 0, 0);
        x.see(1, 1, 40);
        // 61 .. 99: the rest is more than it bears
        owes(x, 1, 39, 61);
        // 50, 9 and 11 .. 29 of 0, who bears 40 of 81 .. 99 less 30
        owes(x, 0, 19, 81);
        x.see(-1, 0, 0);
        x.see(2, 1, 7);
        x.see(1, 0, 73);
        // 73 and 9, less 30 and 40, are 12: with 9 to 2, who has less than 30 then
        owes(x, 1, 0, -5);
        x.owe(2, 16);
        owes(x, 1, 1, 73);
        owes(x, 2, 0, -5);
        x.see(-1, 0, 0);
        x.see(2, 12, 0);
        x.see(2, 0, 99);
        owes(x, 2, 1, 99);
        DUE.is("of(1, 2) is as it was", x.of(1, 2), 50);
        DUE.is("of(2, 2) is as it was", x.of(2, 2), 16);
        DUE.is("told(0) is as it was", x.told(0), 0);
    }

    private static void can(SnoozeRow x, int p, int many, int least) {
        DUE.is("can(" + p + ", 0)", x.can(p, 0), many);
        DUE.is("can(" + p + ", 1)", x.can(p, 1), least);
    }

    private static void can() {
        DUE.promise("16 can");
        SnoozeRow x = Due.row(1, 4, 0, 0);
        can(x, 0, 10, 0);
        x.see(1, 1, 2);
        can(x, 0, 0, -5);
        x.owe(1, 20);
        // 20, 9 and v, less 30
        can(x, 0, 1, 3);
        can(x, 1, 0, -5);
        x.see(-1, 0, 0);
        x.see(1, 1, 0);
        can(x, 0, 2, 0);
        Due.street(x, "soon 5 v>6;late 5 v<2");
        // 34 and v less 30 for 0 and 1; 29 and v less 30, 2 .. 6; 24 and v, 7 .. 9, less 30: 31, 32 and 33
        can(x, 0, 0, -5);
        x.owe(1, 14);
        // 28 and 29; 25 .. 29; 25, 26 and 27
        can(x, 0, 10, 0);
        x.owe(1, 18);
        // 32, 33; 29, 30, 31, 32, 33; 29, 30, 31
        can(x, 0, 4, 2);
        DUE.is("of(0, 1) is as it was", x.of(0, 1), 4);
        DUE.is("can(2, 0)", x.can(2, 0), SnoozeRow.NONE);
        DUE.is("can(-1, 0)", x.can(-1, 0), SnoozeRow.NONE);
        DUE.is("can(0, 2)", x.can(0, 2), SnoozeRow.NONE);
        DUE.is("can(0, -1)", x.can(0, -1), SnoozeRow.NONE);
    }

    private static void odds(SnoozeRow x, int n, int q, long above, long below) {
        DUE.is("odds(" + n + ", " + q + ", 0)", x.odds(n, q, 0), above);
        DUE.is("odds(" + n + ", " + q + ", 1)", x.odds(n, q, 1), below);
    }

    private static void odds() {
        DUE.promise("17 odds");
        odds(new SnoozeRow(), 0, 0, NO, NO);
        SnoozeRow x = Due.row(0, 0, 1, 3, 0, 0, 1, 9);
        // the last one there snoozes 9 (0, 2), 12 (1), 18 (3)
        odds(x, 0, 0, 1, 1);
        odds(x, 0, 1, 0, 1);
        odds(x, 1, 9, 1, 1);
        odds(x, 1, 10, 3, 4);
        odds(x, 1, 18, 3, 4);
        odds(x, 1, 19, 0, 1);
        odds(x, 20, 180, 1, 1);
        odds(x, 20, 181, 3, 4);
        odds(x, 20, 361, 0, 1);
        x.away(3, true);
        // 12 by 1, without 2; else 9
        odds(x, 1, 10, 1, 3);
        x.away(0, true);
        odds(x, 1, 10, 1, 2);
        odds(x, 1, 9, 1, 1);
        x.away(2, true);
        // 1 alone: AWAY, there is none
        odds(x, 1, 1, 0, 1);
        x.away(1, true);
        odds(x, 1, 0, NO, NO);
        x.away(1, false);
        DUE.is("odds(-1, 0, 0)", x.odds(-1, 0, 0), NO);
        DUE.is("odds(21, 0, 0)", x.odds(21, 0, 0), NO);
        DUE.is("odds(0, -1, 0)", x.odds(0, -1, 0), NO);
        DUE.is("odds(0, 10000, 0)", x.odds(0, 10000, 0), NO);
        DUE.is("odds(0, 9999, 0)", x.odds(0, 9999, 0), 0);
        DUE.is("odds(0, 0, -1)", x.odds(0, 0, -1), NO);
        DUE.is("odds(0, 0, 2)", x.odds(0, 0, 2), NO);
        DUE.is("told(3) is as it was", x.told(3), 13);
        lowestTerms();
    }

    private static void lowestTerms() {
        SnoozeRow x = Due.row(0, 0, 0, 0, 0, 0, 0, 0, 0, 0, 0, 0);
        Due.street(x, "soon 9 p<9;bear 0");
        // 30 of each who owes 60 and is there come on to the next, who does 30; 5 owes 30
        x.owe(0, 60);
        x.owe(4, 30);
        x.owe(5, 30);
        // 30 of 0 are done by 1, unless 1 is AWAY: then by 2
        odds(x, 1, 1, 0, 1);
        x.owe(1, 30);
        x.owe(2, 30);
        x.owe(3, 30);
        // all of 0's come through, unless 0 is AWAY; whoever else is AWAY does not matter
        odds(x, 1, 1, 5, 6);
        odds(x, 1, 30, 5, 6);
        odds(x, 1, 31, 0, 1);
        x.owe(3, 60);
        // of 60 through all: 0 or 3 AWAY: 30
        odds(x, 1, 31, 2, 3);
        x.owe(4, 60);
        odds(x, 1, 61, 1, 2);
        odds(x, 1, 60, 1, 1);
    }

    private static void mean(SnoozeRow x, int n, long above, long below) {
        DUE.is("mean(" + n + ", 0)", x.mean(n, 0), above);
        DUE.is("mean(" + n + ", 1)", x.mean(n, 1), below);
    }

    private static void mean() {
        DUE.promise("18 mean");
        mean(new SnoozeRow(), 0, NO, NO);
        SnoozeRow x = Due.row(0, 0, 0, 0, 0, 0, 0, 0);
        mean(x, 0, 0, 1);
        x.owe(0, 1);
        mean(x, 0, 1, 4);
        x.owe(1, 1);
        mean(x, 0, 1, 2);
        x.owe(2, 1);
        x.owe(3, 9999);
        mean(x, 0, 5001, 2);
        x.owe(0, 0);
        mean(x, 0, 10001, 4);
        mean(x, 1, 10, 1);
        mean(x, 60, 0, 1);
        x.away(3, true);
        // one who is AWAY owes all the same
        mean(x, 60, 9999, 4);
        DUE.is("mean(-1, 0)", x.mean(-1, 0), NO);
        DUE.is("mean(61, 0)", x.mean(61, 0), NO);
        DUE.is("mean(0, -1)", x.mean(0, -1), NO);
        DUE.is("mean(0, 2)", x.mean(0, 2), NO);
        DUE.is("told(0) is as it was", x.told(0), 0);
        SnoozeRow six = Due.row(0, 0, 0, 0, 0, 0, 0, 0, 0, 0, 0, 0);
        six.owe(2, 15);
        mean(six, 0, 5, 2);
        six.owe(2, 16);
        mean(six, 0, 8, 3);
        six.owe(2, 18);
        mean(six, 0, 3, 1);
    }
}
