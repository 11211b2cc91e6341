/** Boundary cases of what is asked of MORNINGS to come: ON, FILLS, SENT, STOP, CHAIN; promises 12 to 14. */
final class AskedEdges {
    private static final int NONE = SnoozeRow.NONE, BAD = SnoozeRow.BAD;
    private static final int MIN = Integer.MIN_VALUE, MAX = Integer.MAX_VALUE;

    static void all(Edges e) {
        e.says("Terms", "All that follows is asked, goes on from how all is (MORNINGS beyond 9999, too), and changes nothing.",
            AskedEdges::beyond9999);
        e.says("Terms", "ON n MORNINGS (0 .. 60): DEEP; OWED of one; LIVED of one.", AskedEdges::on);
        e.says("Terms", "goes on from how all is", AskedEdges::goesOnFromAll);
        e.says("Terms", "FILLS to q (0 .. 9999)", AskedEdges::fillsTo);
        e.says("Terms", "the fewest MORNINGS (0 .. 60) behind which DEEP is q or more", AskedEdges::fewestMornings);
        e.says("Terms", "(-5: not by then)", AskedEdges::notByThen);
        sent(e);
        stop(e);
        e.says("Terms", "CHAIN of one not AWAY: to whom what COMES on from it goes", AskedEdges::chain);
        e.says("Terms", "(-5: DEEP, or it is AWAY)", AskedEdges::chainNone);
        e.says("12", "ON: what 0 DEEP, 10 and p OWED, 20 and p LIVED of SLEEPER p.", AskedEdges::onWhat);
        e.says("12", "NONE;", AskedEdges::onNone);
        e.says("12", "BAD: n.", AskedEdges::onBad);
        e.says("12", "NONE; BAD: n.", AskedEdges::onRefusesInOrder);
        e.says("13", "FILLS; -5.", AskedEdges::fills);
        e.says("13", "BAD.", AskedEdges::fillsBad);
        e.says("14", "What 0 SENT (n 1 .. 20; -5)", AskedEdges::bestSent);
        e.says("14", "1 STOP (n 1 .. 12; bits; -5).", AskedEdges::bestStop);
        e.says("14", "NONE: what", AskedEdges::bestNone);
        e.says("14", "BAD: n.", AskedEdges::bestBad);
        e.says("14", "NONE: what; BAD: n.", AskedEdges::bestRefusesInOrder);
    }

    private static void sent(Edges e) {
        e.says("Terms", "SENT of n MORNINGS (1 .. 20)", AskedEdges::sentMornings);
        e.says("Terms", "the one not AWAY by whose being AWAY now DEEP is least behind n", AskedEdges::sentLeast);
        e.says("Terms", "if less than as it is", AskedEdges::sentIfLess);
        e.says("Terms", "(of several the first; -5: none)", AskedEdges::sentFirst);
    }

    private static void stop(Edges e) {
        e.says("Terms", "STOP of n MORNINGS (1 .. 12)", AskedEdges::stopMornings);
        e.says("Terms", "the set with the fewest of those not AWAY", AskedEdges::stopFewest);
        e.says("Terms", "(as bits; of several the least as bits)", AskedEdges::stopLeastBits);
        e.says("Terms", "by whom being AWAY now, too, DEEP is no more behind n than now", AskedEdges::stopNoMore);
        e.says("Terms", "than now (-5: none)", AskedEdges::stopByAll);
    }

    /** 50 come from 0 to 1 in MORNINGS modulo 10 being 0 alone: 30 are done, 5 borne, 15 go deep. */
    private static SnoozeRow tenthMornings() {
        SnoozeRow x = Due.row(0, 0, 0, 0);
        Due.street(x, "soon 9 p<9;late 50 m=0&p=0;bear 5");
        return x;
    }

    private static void beyond9999(Edges e) {
        SnoozeRow x = tenthMornings();
        for (int i = 0; i < 166; i++) {
            x.pass(60);
        }
        x.pass(39);
        x.dip(0);
        int lived = x.of(1, 3);
        e.is("on(1, 0)", x.on(1, 0), 0);
        e.is("on(2, 0)", x.on(2, 0), 15);
        e.is("on(2, 11)", x.on(2, 11), 5);
        e.is("on(60, 0)", x.on(60, 0), 6 * 15);
        e.is("fills(15)", x.fills(15), 2);
        e.is("fills(16)", x.fills(16), 12);
        e.is("best(1, 0)", x.best(1, 0), -5);
        e.is("best(2, 0)", x.best(2, 0), 0);
        e.is("best(1, 1)", x.best(1, 1), 0);
        e.is("best(2, 1)", x.best(2, 1), 1);
        e.is("odds(1, 1, 0)", x.odds(1, 1, 0), 0);
        e.is("odds(2, 50, 0)", x.odds(2, 50, 0), 1);
        e.is("odds(2, 50, 1)", x.odds(2, 50, 1), 2);
        e.is("mean(2, 0)", x.mean(2, 0), 5);
        e.is("mean(2, 1)", x.mean(2, 1), 2);
        x.see(1, 2, 5);
        e.is("of(1, 7)", x.of(1, 7), 100);
        e.is("can(1, 0)", x.can(1, 0), 10);
        x.plan(0, 0);
        x.plan(0, 0);
        e.is("ends(0)", x.ends(0), 15);
        e.is("told(0)", x.told(0), 9999);
        e.is("told(2)", x.told(2), 0);
        e.is("of(1, 2)", x.of(1, 2), 0);
        e.is("of(1, 3)", x.of(1, 3), lived);
    }

    /** Of all that is each one's own: its KIND, v, OWED, LIVED, AWAY and ROW, of the last one, too. */
    private static void goesOnFromAll(Edges e) {
        SnoozeRow x = Due.row(6, 0, 6, 0, 6, 0, 6, 0, 6, 0, 6, 0);
        for (int p = 0; p < 6; p++) {
            x.row(p, 3, p + 1);
        }
        x.away(0, true);
        x.pass(3);
        for (int p = 5; p > 0; p--) {
            // the last one there snoozes as it is URGED to now
            e.is("on(1, 0) with " + p + " last", x.on(1, 0), x.told(2) + x.of(p, 5));
            e.is("of(" + p + ", 5)", x.of(p, 5), 9 - x.of(p, 3) / 10 + p + 1);
            x.away(p, true);
        }
        SnoozeRow y = Due.row(4, 9, 1, 7);
        y.away(0, true);
        y.owe(1, 80);
        y.dip(5);
        e.is("on(1, 0)", y.on(1, 0), 5 + 16 + 10);
        e.is("on(1, 11)", y.on(1, 11), 40);
        y.away(0, false);
        y.away(1, true);
        e.is("on(1, 0)", y.on(1, 0), 5 + 36);
        e.is("on(1, 11)", y.on(1, 11), 80);
    }

    private static void on(Edges e) {
        SnoozeRow x = Due.row(0, 0, 0, 0);
        x.owe(1, 80);
        e.is("on(0, 0)", x.on(0, 0), 0);
        e.is("on(0, 11)", x.on(0, 11), 80);
        e.is("on(0, 21)", x.on(0, 21), 0);
        e.is("on(1, 0)", x.on(1, 0), 28);
        e.is("on(1, 11)", x.on(1, 11), 40);
        e.is("on(1, 21)", x.on(1, 21), 30);
        e.is("on(60, 0)", x.on(60, 0), 28 + 59 * 9);
        e.is("on(60, 11)", x.on(60, 11), 0);
        e.is("on(60, 21)", x.on(60, 21), 70 + 59 * 9);
    }

    private static void fillsTo(Edges e) {
        SnoozeRow x = Due.row(0, 0);
        e.is("fills(0)", x.fills(0), 0);
        x.dip(9990);
        e.is("fills(9999)", x.fills(9999), 1);
        x.dip(9999);
        e.is("fills(9999)", x.fills(9999), 0);
    }

    private static void fewestMornings(Edges e) {
        SnoozeRow x = Due.row(0, 0);
        x.dip(100);
        e.is("fills(99)", x.fills(99), 0);
        e.is("fills(100)", x.fills(100), 0);
        e.is("fills(101)", x.fills(101), 1);
        e.is("fills(109)", x.fills(109), 1);
        e.is("fills(110)", x.fills(110), 2);
        e.is("fills(631)", x.fills(631), 59);
        e.is("fills(632)", x.fills(632), 60);
        e.is("fills(640)", x.fills(640), 60);
    }

    private static void notByThen(Edges e) {
        SnoozeRow x = Due.row(0, 0);
        e.is("fills(540)", x.fills(540), 60);
        e.is("fills(541)", x.fills(541), -5);
        x.away(0, true);
        e.is("fills(1), all AWAY", x.fills(1), -5);
        e.is("fills(1) of none", new SnoozeRow().fills(1), -5);
    }

    // ---- SENT

    /** 1 comes from 0 to 1 each MORNING, who does it, and snoozes 1 once it has LIVED 20. */
    private static SnoozeRow deepOnceLived20(int owed) {
        SnoozeRow x = Due.row(0, 0, 0, 0);
        Due.street(x, "soon 8 p=0;soon 9 p=1;late 1 p=1&l>1");
        x.owe(1, owed);
        return x;
    }

    private static void sentMornings(Edges e) {
        SnoozeRow x = deepOnceLived20(1);
        e.is("on(19, 0)", x.on(19, 0), 0);
        e.is("on(20, 0)", x.on(20, 0), 1);
        e.is("best(19, 0)", x.best(19, 0), -5);
        e.is("best(20, 0)", x.best(20, 0), 0);
        SnoozeRow y = Due.row(0, 0);
        e.is("best(1, 0)", y.best(1, 0), 0);
    }

    private static void sentLeast(Edges e) {
        SnoozeRow x = Due.row(0, 0, 0, 0, 0, 0);
        x.owe(1, 200);
        x.owe(2, 200);
        // as it is: 139 of 1 come to 2, 278 of 2 go deep, and its 9
        e.is("on(1, 0)", x.on(1, 0), 287);
        e.is("best(1, 0)", x.best(1, 0), 1);
        x.away(1, true);
        // 1 is AWAY by now and can not be the one
        e.is("best(1, 0)", x.best(1, 0), 2);
        x.away(2, true);
        e.is("best(1, 0)", x.best(1, 0), 0);
    }

    private static void sentIfLess(Edges e) {
        SnoozeRow x = Due.row(0, 0, 0, 0);
        // the last one's 9 go deep, whoever that is
        e.is("best(1, 0), as much", x.best(1, 0), -5);
        e.is("best(20, 0), as much", x.best(20, 0), -5);
        SnoozeRow y = Due.row(0, 0, 1, 1);
        e.is("best(1, 0), 9 and not 10", y.best(1, 0), 1);
        SnoozeRow z = Due.row(1, 1, 0, 0);
        e.is("best(1, 0), 10 and not 9", z.best(1, 0), -5);
        y.dip(9999);
        e.is("best(1, 0), DEEP at its most", y.best(1, 0), -5);
    }

    private static void sentFirst(Edges e) {
        SnoozeRow x = Due.row(0, 0, 0, 0, 0, 0);
        Due.street(x, "late 51 p<2;bear 0;soon 9 p=2");
        // 60 of 0: 30 are done by 1, 30 come to 2 with 60 of 1: 30 done, 60 deep; without 0 or without 1: 30
        e.is("on(1, 0)", x.on(1, 0), 60);
        e.is("best(1, 0)", x.best(1, 0), 0);
        SnoozeRow all = Due.row(0, 0);
        all.away(0, true);
        e.is("best(1, 0), all AWAY", all.best(1, 0), -5);
        e.is("best(1, 0) of none", new SnoozeRow().best(1, 0), -5);
    }

    // ---- STOP

    private static void stopMornings(Edges e) {
        SnoozeRow x = deepOnceLived20(9);
        e.is("on(11, 0)", x.on(11, 0), 0);
        e.is("on(12, 0)", x.on(12, 0), 1);
        e.is("best(11, 1)", x.best(11, 1), 0);
        e.is("best(12, 1)", x.best(12, 1), 1);
        SnoozeRow y = Due.row(0, 0);
        e.is("best(1, 1)", y.best(1, 1), 1);
    }

    private static void stopFewest(Edges e) {
        SnoozeRow x = Due.row(0, 0, 0, 0, 0, 0, 0, 0);
        Due.street(x, "late 40 p=2;soon 9 p=3;late 11 p<2;bear 1");
        // 49 of 2 are more than 3 can do and bear; without 2 it does what comes; 4 is fewer than 1 + 2
        e.is("best(1, 1)", x.best(1, 1), 4);
        x.away(2, true);
        e.is("best(1, 1), 2 AWAY already", x.best(1, 1), 0);
        SnoozeRow y = Due.row(0, 0, 0, 0, 0, 0);
        y.away(1, true);
        e.is("best(1, 1), of those not AWAY", y.best(1, 1), 5);
    }

    private static void stopLeastBits(Edges e) {
        SnoozeRow x = Due.row(0, 0, 0, 0, 0, 0);
        Due.street(x, "late 11 p<2;soon 9 p=2;bear 0");
        x.owe(1, 30);
        x.owe(2, 10);
        // 0 AWAY: 20 of 1 and 10 are done by 2. 1 AWAY: 20 of 0 and 10, too
        e.is("on(1, 0)", x.on(1, 0), 20);
        e.is("best(1, 1)", x.best(1, 1), 1);
        x.owe(1, 31);
        e.is("best(1, 1), by 1 alone", x.best(1, 1), 2);
        SnoozeRow six = Due.row(0, 0, 0, 0, 0, 0, 0, 0, 0, 0, 0, 0);
        e.is("best(1, 1), by all six", six.best(1, 1), 63);
    }

    private static void stopNoMore(Edges e) {
        SnoozeRow x = Due.row(0, 0);
        Due.street(x, "soon 9 p=0");
        x.dip(7);
        e.is("best(12, 1), as much as now", x.best(12, 1), 0);
        Due.street(x, "soon 8 p=0");
        e.is("best(1, 1), 1 more than now", x.best(1, 1), 1);
        x.dip(9999);
        e.is("best(12, 1), DEEP at its most", x.best(12, 1), 0);
    }

    /** With all AWAY nothing goes deep, so that there always is such a set. */
    private static void stopByAll(Edges e) {
        SnoozeRow x = new SnoozeRow();
        e.is("best(12, 1) of none", x.best(12, 1), 0);
        int bits = 0;
        for (int p = 0; p < 6; p++) {
            x.sleeper(0, 0);
            bits += 1 << p;
            e.is("best(12, 1) of all", x.best(12, 1), bits);
        }
        for (int p = 0; p < 6; p++) {
            x.away(p, true);
        }
        e.is("best(12, 1), all AWAY", x.best(12, 1), 0);
    }

    // ---- CHAIN

    private static void chain(Edges e) {
        SnoozeRow x = Due.row(0, 0, 0, 0, 0, 0, 0, 0, 0, 0, 0, 0);
        e.is("of(0, 6)", x.of(0, 6), 1);
        e.is("of(4, 6)", x.of(4, 6), 5);
        for (int p = 1; p < 5; p++) {
            x.away(p, true);
            e.is("of(0, 6)", x.of(0, 6), p + 1);
        }
    }

    private static void chainNone(Edges e) {
        SnoozeRow x = Due.row(0, 0, 0, 0, 0, 0);
        e.is("of(2, 6), the last", x.of(2, 6), -5);
        x.away(2, true);
        e.is("of(1, 6), the last not AWAY", x.of(1, 6), -5);
        x.away(0, true);
        e.is("of(0, 6), AWAY", x.of(0, 6), -5);
    }

    // ---- promises 12 to 14

    private static void onWhat(Edges e) {
        SnoozeRow x = Due.row(0, 0, 0, 0, 0, 0, 0, 0, 0, 0, 0, 0);
        for (int p = 0; p < 6; p++) {
            x.owe(p, 31 + p);
        }
        x.dip(77);
        Due.street(x, "soon 9 p<6");
        e.is("on(0, 0)", x.on(0, 0), 77);
        for (int p = 0; p < 6; p++) {
            e.is("on(0, 10 and " + p + ")", x.on(0, 10 + p), 31 + p);
            e.is("on(1, 10 and " + p + ")", x.on(1, 10 + p), 1 + p);
            e.is("on(1, 20 and " + p + ")", x.on(1, 20 + p), 30);
            e.is("on(2, 20 and " + p + ")", x.on(2, 20 + p), 31 + p);
        }
    }

    private static void onNone(Edges e) {
        SnoozeRow x = Due.row(0, 0, 0, 0);
        int[] none = {-1, 1, 9, 12, 15, 19, 22, 25, 30, MIN, MIN + 10, MIN + 20, MAX};
        for (int what : none) {
            e.is("on(1, " + what + ")", x.on(1, what), NONE);
        }
        e.is("on(0, 10) of none", new SnoozeRow().on(0, 10), NONE);
        e.is("on(0, 20) of none", new SnoozeRow().on(0, 20), NONE);
    }

    private static void onBad(Edges e) {
        SnoozeRow x = Due.row(0, 0);
        int[] bad = {-1, 61, MIN, MAX};
        int[] whats = {0, 10, 20};
        for (int n : bad) {
            for (int what : whats) {
                e.is("on(" + n + ", " + what + ")", x.on(n, what), BAD);
            }
        }
    }

    private static void onRefusesInOrder(Edges e) {
        SnoozeRow x = Due.row(0, 0);
        e.is("on(61, 11)", x.on(61, 11), NONE);
        e.is("on(-1, 1)", x.on(-1, 1), NONE);
    }

    private static void fills(Edges e) {
        SnoozeRow x = Due.row(0, 0);
        e.is("fills(0)", x.fills(0), 0);
        e.is("fills(9999)", x.fills(9999), -5);
        e.is("told(2)", x.told(2), 0);
    }

    private static void fillsBad(Edges e) {
        SnoozeRow x = Due.row(0, 0);
        int[] bad = {-1, 10000, MIN, MAX};
        for (int q : bad) {
            e.is("fills(" + q + ")", x.fills(q), BAD);
        }
    }

    private static void bestSent(Edges e) {
        SnoozeRow x = Due.row(0, 0);
        e.is("best(1, 0)", x.best(1, 0), 0);
        e.is("best(20, 0)", x.best(20, 0), 0);
        x.away(0, true);
        e.is("best(1, 0)", x.best(1, 0), -5);
        e.is("best(20, 0)", x.best(20, 0), -5);
    }

    private static void bestStop(Edges e) {
        SnoozeRow x = Due.row(0, 0, 0, 0, 0, 0, 0, 0, 0, 0, 0, 0);
        e.is("best(1, 1)", x.best(1, 1), 63);
        e.is("best(12, 1)", x.best(12, 1), 63);
        x.away(0, true);
        e.is("best(12, 1)", x.best(12, 1), 62);
    }

    private static void bestNone(Edges e) {
        SnoozeRow x = Due.row(0, 0);
        int[] none = {-1, 2, MIN, MAX};
        for (int what : none) {
            e.is("best(1, " + what + ")", x.best(1, what), NONE);
        }
    }

    private static void bestBad(Edges e) {
        SnoozeRow x = Due.row(0, 0);
        int[] bad = {0, -1, 21, MIN, MAX};
        for (int n : bad) {
            e.is("best(" + n + ", 0)", x.best(n, 0), BAD);
            e.is("best(" + n + ", 1)", x.best(n, 1), BAD);
        }
        e.is("best(13, 1)", x.best(13, 1), BAD);
        e.is("best(13, 0)", x.best(13, 0), 0);
    }

    private static void bestRefusesInOrder(Edges e) {
        e.is("best(0, 2)", Due.row(0, 0).best(0, 2), NONE);
        e.is("best(21, -1)", Due.row(0, 0).best(21, -1), NONE);
    }
}
