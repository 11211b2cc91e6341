/** Promises 11 to 14: MORNINGS, ON, FILLS, SENT and STOP. */
public final class MorningsTest {
    private static final Due DUE = new Due();

    public static void main(String[] args) {
        pass();
        oneMorning();
        limits();
        passBounds();
        on();
        onRows();
        fills();
        sent();
        stop();
        DUE.end();
    }

    private static void all(SnoozeRow x, int deep, int... owedAndLived) {
        DUE.is("told(2)", x.told(2), deep);
        for (int p = 0; 2 * p < owedAndLived.length; p++) {
            DUE.is("of(" + p + ", 2)", x.of(p, 2), owedAndLived[2 * p]);
            DUE.is("of(" + p + ", 3)", x.of(p, 3), owedAndLived[2 * p + 1]);
        }
    }

    private static void pass() {
        DUE.promise("11 pass");
        SnoozeRow x = Due.row(0, 0, 0, 0, 0, 0);
        DUE.is("pass(0)", x.pass(0), 0);
        all(x, 0, 0, 0, 0, 0, 0, 0);
        DUE.is("pass(1)", x.pass(1), 1);
        // each snoozes 9; the first owes nothing, the others do what has just come
        all(x, 9, 0, 0, 0, 9, 0, 9);
        x.away(1, true);
        DUE.is("pass(2)", x.pass(2), 3);
        all(x, 27, 0, 0, 0, 9, 0, 27);
        x.away(2, true);
        DUE.is("pass(1)", x.pass(1), 4);
        all(x, 36, 0, 0, 0, 9, 0, 27);
        x.away(0, true);
        DUE.is("pass(60) with all AWAY", x.pass(60), 64);
        all(x, 36, 0, 0, 0, 9, 0, 27);
    }

    private static void oneMorning() {
        DUE.promise("11 pass: the order within a MORNING");
        SnoozeRow x = Due.row(0, 0, 4, 5, 2, 0);
        x.owe(0, 100);
        x.owe(1, 0);
        x.owe(2, 69);
        Due.street(x, "bear 20;late 70 o>6;soon 90 p=1&o>8");
        x.pass(1);
        // 0: o 10: urge 79, snooze 60 to 1. 100: 30 done, 20 borne, 50 to 1, which owes 110.
        // 1, who owes by now: o 11: 9 + 70 - 90 + 5, below 0: 0. 110: 30 done, 20 borne, 60 to 2: 129.
        // 2: o 12: (9 + 70) / 2: 39 deep. 129: 30 done, 20 borne, 79 deep.
        all(x, 118, 20, 30, 20, 30, 20, 30);
        x.pass(1);
        // 0: 9 to 1: 29; 20 done. 1: 9 + 5 to 2: 34; 29 done. 2: 4 deep; 30 done, 4 stay.
        all(x, 122, 0, 50, 0, 59, 4, 60);
        x.pass(1);
        // 0: 9 to 1. 1 owes 9, not 0, by then: 14 to 2. 2: 18 done.
        all(x, 126, 0, 50, 0, 68, 0, 78);
    }

    private static void limits() {
        DUE.promise("11 pass: 60, 30, 9999 at most");
        SnoozeRow x = Due.row(0, 0, 0, 0);
        Due.street(x, "late 52 p=0;soon 99 p=1;bear 40");
        x.pass(1);
        all(x, 0, 0, 0, 31 - 1, 30);
        SnoozeRow y = Due.row(0, 0, 0, 0);
        y.owe(0, 9999);
        y.owe(1, 9999);
        y.pass(1);
        // 1 can't owe more: what comes is lost beyond 9999; 9929 and 9 go deep
        all(y, 9938, 40, 30, 40, 30);
        y.pass(1);
        all(y, 9947, 10, 60, 19, 60);
        y.dip(9995);
        y.pass(1);
        all(y, 9999, 0, 70, 0, 88);
        SnoozeRow z = Due.row(0, 0);
        for (int i = 0; i < 5; i++) {
            z.owe(0, 9999);
            Due.street(z, "soon 9 p=0;bear 99");
        }
        for (int i = 0; i < 400; i++) {
            z.owe(0, 30);
            z.pass(1);
            if (i == 332) {
                DUE.is("of(0, 3)", z.of(0, 3), 9990);
            }
        }
        DUE.is("of(0, 3)", z.of(0, 3), 9999);
    }

    private static void passBounds() {
        DUE.promise("11 pass: BAD, STATE");
        SnoozeRow x = Due.row(0, 0);
        DUE.is("pass(-1)", x.pass(-1), SnoozeRow.BAD);
        DUE.is("pass(61)", x.pass(61), SnoozeRow.BAD);
        DUE.is("told(0)", x.told(0), 0);
        for (int i = 1; i <= 166; i++) {
            DUE.is("pass(60)", x.pass(60), 60 * i);
        }
        DUE.is("pass(40)", x.pass(40), SnoozeRow.STATE);
        DUE.is("told(0)", x.told(0), 9960);
        DUE.is("pass(39)", x.pass(39), 9999);
        DUE.is("pass(0)", x.pass(0), 9999);
        DUE.is("pass(1)", x.pass(1), SnoozeRow.STATE);
        DUE.is("pass(61)", x.pass(61), SnoozeRow.BAD);
        DUE.is("told(0)", x.told(0), 9999);
        beyond(x);
    }

    private static void beyond(SnoozeRow x) {
        DUE.promise("12 on: MORNINGS beyond 9999");
        x.dip(0);
        Due.street(x, "soon 9 p=0;late 1 m=0;late 20 m=1");
        DUE.is("on(1, 0)", x.on(1, 0), 0);
        DUE.is("on(2, 0)", x.on(2, 0), 1);
        DUE.is("on(3, 0)", x.on(3, 0), 21);
        DUE.is("fills(21)", x.fills(21), 3);
        x.plan(0, 0);
        x.plan(0, 0);
        DUE.is("ends(0)", x.ends(0), 1);
        DUE.is("best(2, 0)", x.best(2, 0), 0);
        DUE.is("told(0)", x.told(0), 9999);
    }

    private static void on() {
        DUE.promise("12 on");
        SnoozeRow x = Due.row(0, 0, 0, 0);
        x.owe(1, 80);
        DUE.is("on(0, 0)", x.on(0, 0), 0);
        DUE.is("on(0, 11)", x.on(0, 11), 80);
        DUE.is("on(1, 0)", x.on(1, 0), 28);
        DUE.is("on(1, 10)", x.on(1, 10), 0);
        DUE.is("on(1, 11)", x.on(1, 11), 40);
        DUE.is("on(1, 20)", x.on(1, 20), 0);
        DUE.is("on(2, 21)", x.on(2, 21), 60);
        DUE.is("on(60, 0)", x.on(60, 0), 28 + 59 * 9);
        DUE.is("on(60, 21)", x.on(60, 21), 70 + 59 * 9);
        DUE.is("on(61, 0)", x.on(61, 0), SnoozeRow.BAD);
        DUE.is("on(-1, 0)", x.on(-1, 0), SnoozeRow.BAD);
        int[] none = {-1, 1, 9, 12, 19, 22, 30, Integer.MIN_VALUE, Integer.MAX_VALUE};
        for (int what : none) {
            DUE.is("on(1, " + what + ")", x.on(1, what), SnoozeRow.NONE);
            DUE.is("on(61, " + what + ")", x.on(61, what), SnoozeRow.NONE);
        }
        all(x, 0, 0, 0, 80, 0);
        DUE.is("told(0)", x.told(0), 0);
    }

    private static void onRows() {
        DUE.promise("12 on: each one's own ROW");
        SnoozeRow x = Due.row(6, 0, 6, 0, 6, 0, 6, 0, 6, 0, 6, 0);
        for (int p = 0; p < 6; p++) {
            x.row(p, 3, p + 1);
        }
        for (int p = 5; p >= 0; p--) {
            // the last one there has p + 1 more in the fourth MORNING; what it did makes it less
            int before = x.on(3, 0);
            int less = Math.min(9, x.on(3, 20 + p) / 10);
            DUE.is("on(4, 0) with " + p + " last", x.on(4, 0), before + 9 - less + p + 1);
            x.away(p, true);
        }
    }

    private static void fills() {
        DUE.promise("13 fills");
        SnoozeRow x = Due.row(0, 0);
        DUE.is("fills(0)", x.fills(0), 0);
        DUE.is("fills(1)", x.fills(1), 1);
        DUE.is("fills(9)", x.fills(9), 1);
        DUE.is("fills(10)", x.fills(10), 2);
        DUE.is("fills(531)", x.fills(531), 59);
        DUE.is("fills(532)", x.fills(532), 60);
        DUE.is("fills(540)", x.fills(540), 60);
        DUE.is("fills(541)", x.fills(541), -5);
        DUE.is("fills(-1)", x.fills(-1), SnoozeRow.BAD);
        DUE.is("fills(10000)", x.fills(10000), SnoozeRow.BAD);
        x.dip(9990);
        DUE.is("fills(9990)", x.fills(9990), 0);
        DUE.is("fills(9999)", x.fills(9999), 1);
        DUE.is("told(2)", x.told(2), 9990);
    }

    private static void sent() {
        DUE.promise("14 best: SENT");
        SnoozeRow x = Due.row(0, 0, 0, 0, 0, 0);
        // whoever is last does what comes, and its own 9 go deep: none is better away
        DUE.is("best(1, 0)", x.best(1, 0), -5);
        DUE.is("best(20, 0)", x.best(20, 0), -5);
        x.owe(1, 200);
        x.owe(2, 200);
        // as it is: 139 of 1 come to 2, which then bears 40: 330 go deep, and 9
        DUE.is("on(1, 0)", x.on(1, 0), 269 + 9 + 9);
        DUE.is("best(1, 0)", x.best(1, 0), 1);
        x.away(1, true);
        DUE.is("best(1, 0) without 1", x.best(1, 0), 2);
        x.away(2, true);
        DUE.is("best(1, 0) with 0 alone", x.best(1, 0), 0);
        x.away(0, true);
        DUE.is("best(1, 0) with all AWAY", x.best(1, 0), -5);
        DUE.is("told(3)", x.told(3), 7);
        DUE.is("best(0, 0)", x.best(0, 0), SnoozeRow.BAD);
        DUE.is("best(21, 0)", x.best(21, 0), SnoozeRow.BAD);
        DUE.is("best(20, 0)", x.best(20, 0), -5);
        DUE.is("best(0, 2)", x.best(0, 2), SnoozeRow.NONE);
        DUE.is("best(5, -1)", x.best(5, -1), SnoozeRow.NONE);
        firstOfSeveral();
    }

    private static void firstOfSeveral() {
        SnoozeRow x = Due.row(0, 0, 0, 0, 0, 0);
        Due.street(x, "late 51 p<2;bear 0;soon 9 p=2");
        // 60 and 60 come to 2 by way of 1: 30 are done by 1, 30 by 2, 60 deep; less one: 30
        DUE.is("on(1, 0)", x.on(1, 0), 60);
        DUE.is("best(1, 0)", x.best(1, 0), 0);
        x.away(0, true);
        DUE.is("best(1, 0)", x.best(1, 0), 1);
    }

    private static void stop() {
        DUE.promise("14 best: STOP");
        SnoozeRow x = Due.row(0, 0, 0, 0, 0, 0);
        DUE.is("best(1, 1)", x.best(1, 1), 7);
        Due.street(x, "soon 9 p=2");
        DUE.is("best(12, 1) stops as it is", x.best(12, 1), 0);
        x.owe(2, 200);
        DUE.is("best(12, 1): 2 can't bear it", x.best(12, 1), 7);
        Due.street(x, "soon 9 p>0");
        x.owe(1, 75);
        x.owe(2, 75);
        // without 0 there is still what 1 and 2 can't bear; 2 has to be AWAY, and then 1 and 0
        DUE.is("best(12, 1)", x.best(12, 1), 7);
        x.owe(2, 0);
        DUE.is("best(12, 1)", x.best(12, 1), 0);
        DUE.is("told(3)", x.told(3), 0);
        x.away(2, true);
        DUE.is("best(12, 1) with 2 AWAY", x.best(12, 1), 2 + 1);
        x.owe(1, 0);
        DUE.is("best(12, 1) with 2 AWAY", x.best(12, 1), 0);
        DUE.is("best(13, 1)", x.best(13, 1), SnoozeRow.BAD);
        DUE.is("best(0, 1)", x.best(0, 1), SnoozeRow.BAD);
        DUE.is("best(13, 2)", x.best(13, 2), SnoozeRow.NONE);
        fewest();
    }

    private static void all() {
        SnoozeRow x = Due.row(0, 0, 0, 0, 0, 0, 0, 0, 0, 0, 0, 0);
        DUE.is("best(1, 1) of six", x.best(1, 1), 63);
        x.away(1, true);
        DUE.is("best(1, 1) of five", x.best(1, 1), 61);
        x.away(3, true);
        DUE.is("best(1, 1) of four", x.best(1, 1), 53);
    }

    private static void leastOfSeveral() {
        SnoozeRow x = Due.row(0, 0, 0, 0, 0, 0);
        Due.street(x, "late 11 p<2;soon 9 p=2;bear 0");
        x.owe(1, 30);
        x.owe(2, 10);
        // 20 of 0 are more than 1 can do, with 20 of 1 more than 2 can; without either 2 does all
        DUE.is("on(1, 0)", x.on(1, 0), 20);
        DUE.is("best(1, 1)", x.best(1, 1), 1);
        x.owe(1, 31);
        DUE.is("best(1, 1)", x.best(1, 1), 2);
    }

    private static void fewest() {
        SnoozeRow x = Due.row(0, 0, 0, 0, 0, 0, 0, 0);
        Due.street(x, "late 40 p=2;soon 9 p=3;late 11 p<2;bear 1");
        // 49 of 2 and 20 of each of 0 and 1 are more than 3 can do; it stops without 2
        DUE.is("best(1, 1)", x.best(1, 1), 4);
        Due.street(x, "late 6 p<3;soon 9 p=3;bear 0");
        // 15 each: 1 and 2 do what comes, 3 does 15
        DUE.is("best(9, 1)", x.best(9, 1), 0);
        Due.street(x, "late 51 p<3;soon 9 p=3;bear 30");
        // each bears 30 of 60 in the first MORNING, and in the second no more
        DUE.is("best(1, 1)", x.best(1, 1), 0);
        DUE.is("best(2, 1)", x.best(2, 1), 7);
        x.dip(9999);
        DUE.is("best(2, 1) with DEEP at its most", x.best(2, 1), 0);
        leastOfSeveral();
        all();
    }
}
