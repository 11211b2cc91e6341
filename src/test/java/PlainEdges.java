/** The sentences of the Terms and the promises that name no boundary case: what each means in the plain. */
final class PlainEdges {
    private static final int NONE = SnoozeRow.NONE;

    static void all(Edges e) {
        e.says("Terms", "A STREET is read from THE TEXT", PlainEdges::readFromTheText);
        e.says("Terms", "What COMES on to the next from one:", PlainEdges::comesOn);
        e.says("Terms", "its SNOOZE COMES on to the next; then it does what it OWES", PlainEdges::snoozesAhead);
        e.says("Terms", "A PLAN told by hand:", PlainEdges::planByHand);
        e.says("Terms", "LOOKED at: the number of the first", PlainEdges::lookedAt);
        e.says("Terms", "OWED told by a row of ints, from a place on, one by one, is JUDGED", PlainEdges::oneByOne);
        e.says("Terms", "The host's refusals: NOTHING (-11)", PlainEdges::refusals);
        e.says("Terms", "Answers: NONE (-1)", PlainEdges::answers);
        e.says("Terms", "The constants: `NO = Long.MIN_VALUE`", PlainEdges::constants);
        e.says("3", "Of a SLEEPER what 0 KIND, 1 v, 2 OWED, 3 LIVED", PlainEdges::ofPlain);
        e.says("10", "What 0 MORNING, 1 BEAR, 2 DEEP", PlainEdges::toldPlain);
        e.says("17", "ODDS;", PlainEdges::odds);
        bodies(e);
    }

    private static void bodies(Edges e) {
        e.says("Terms", "0 rolls, 1 yawns, 2 tells; i its number.", PlainEdges::threeActs);
        e.says("Terms", "BODIES: SLEEPER: 10 rolls: x + i.", PlainEdges::sleeperRolls);
        e.says("Terms", "11 yawns: rolls(x) - v.", PlainEdges::sleeperYawns);
        e.says("Terms", "12 tells: yawns(x) * 2.", PlainEdges::sleeperTells);
        e.says("Terms", "LODGER: 20 yawns: super.yawns(x) ^ 6.", PlainEdges::lodgerYawns);
        e.says("Terms", "CLERK: 30 rolls: super.rolls(x * 3).", PlainEdges::clerkRolls);
        e.says("Terms", "BOY: 40 tells: super.tells(x) + yawns(1).", PlainEdges::boyTells);
        e.says("Terms", "LORD: 50 rolls: -super.rolls(x).", PlainEdges::lordRolls);
        e.says("Terms", "51 yawns: super.yawns(x + 1).", PlainEdges::lordYawns);
        e.says("Terms", "NURSE: 60 tells: super.tells(x - i).", PlainEdges::nurseTells);
        e.says("Terms", "TOLD: 70 yawns: super.yawns(x) + super.rolls(2).", PlainEdges::toldYawns);
        e.says("Terms", "71 rolls: super.rolls(x) ^ v.", PlainEdges::toldRolls);
        e.says("Terms", "rolls(..) and so on: the body of its KIND", PlainEdges::bodyOfItsKind);
    }

    // ---- streets, mornings

    private static void readFromTheText(Edges e) {
        SnoozeRow x = Due.row(0, 0);
        Due.feeds(x, "late 7");
        Due.feeds(x, " p=0;be");
        Due.feeds(x, "ar 3");
        e.is("told(1), not read yet", x.told(1), 40);
        e.is("street()", x.street(), 0);
        e.is("of(0, 5)", x.of(0, 5), 16);
        e.is("told(1)", x.told(1), 3);
        // what is fed later is another text
        Due.feeds(x, "soon 99 p=0");
        e.is("of(0, 5)", x.of(0, 5), 16);
    }

    private static void comesOn(Edges e) {
        SnoozeRow x = Due.row(0, 0, 0, 0, 0, 0);
        Due.street(x, "late 51 p=0;soon 9 p>0;bear 0");
        x.pass(1);
        // 60 come to 1: 30 done, 30 handed on to 2, who does them
        e.is("of(0, 3)", x.of(0, 3), 0);
        e.is("of(1, 3)", x.of(1, 3), 30);
        e.is("of(2, 3)", x.of(2, 3), 30);
        e.is("told(2)", x.told(2), 0);
        x.away(1, true);
        x.pass(1);
        e.is("of(1, 3)", x.of(1, 3), 30);
        e.is("of(2, 3)", x.of(2, 3), 60);
        e.is("told(2)", x.told(2), 30);
    }

    /** A LORD's SNOOZE is by what it OWES ahead of doing it, and a BOY's by what was LIVED till then. */
    private static void snoozesAhead(Edges e) {
        SnoozeRow lord = Due.row(4, 1);
        lord.owe(0, 30);
        lord.pass(1);
        e.is("told(2), OWED was 30", lord.told(2), 10);
        e.is("of(0, 2)", lord.of(0, 2), 0);
        lord.pass(1);
        e.is("told(2), OWED was 0", lord.told(2), 30);
        SnoozeRow boy = Due.row(3, 1);
        boy.owe(0, 30);
        boy.pass(1);
        e.is("told(2), LIVED was 0", boy.told(2), 9);
        boy.pass(1);
        e.is("told(2), LIVED was 30", boy.told(2), 15);
    }

    // ---- told by hand

    private static void planByHand(Edges e) {
        SnoozeRow x = Due.row(0, 0, 2, 0);
        e.is("ends(0) of no rows", x.ends(0), 0);
        e.is("plan(1, 1)", x.plan(1, 1), 1);
        e.is("plan(0, 0)", x.plan(0, 0), 2);
        e.is("ends(0), the CLERK is AWAY", x.ends(0), 9);
        e.is("plan(-1, 0)", x.plan(-1, 0), 0);
        e.is("plan(0, 0)", x.plan(0, 0), 1);
        e.is("plan(1, 1)", x.plan(1, 1), 2);
        e.is("ends(0), AWAY too late", x.ends(0), 4);
        e.is("ends(1)", x.ends(1), 9);
    }

    private static void lookedAt(Edges e) {
        SnoozeRow x = Due.row(0, 0, 0, 0, 0, 0);
        x.owe(2, 12);
        x.book(2, 12);
        x.book(0, 0);
        x.book(1, 5);
        x.book(2, 13);
        e.is("looked(), the row, not the SLEEPER", x.looked(), 2);
        x.owe(1, 5);
        e.is("looked()", x.looked(), 3);
        x.owe(2, 13);
        e.is("looked()", x.looked(), 0);
    }

    private static void oneByOne(Edges e) {
        SnoozeRow x = Due.row(0, 0, 0, 0, 0, 0);
        x.tape(4, 2, 5);
        int[] owed = {40, 0, 700};
        for (int p = 0; p < 3; p++) {
            x.owe(p, owed[p]);
            x.item(4, 2 + p, owed[p]);
        }
        e.is("judge(4, 2)", x.judge(4, 2), -5);
        e.is("judge(4, 1)", x.judge(4, 1), 0);
        x.owe(1, 1);
        e.is("judge(4, 2)", x.judge(4, 2), 1);
        x.owe(1, 0);
        x.owe(2, 701);
        e.is("judge(4, 2)", x.judge(4, 2), 2);
    }

    // ---- answers

    private static void refusals(Edges e) {
        SnoozeRow x = Due.row(0, 0);
        e.is("item(0, 0, 1)", x.item(0, 0, 1), -11);
        e.is("taken(0, 1)", x.taken(0, 1), -12);
        x.tape(0, 0, 1);
        e.is("item(0, 1, 1)", x.item(0, 1, 1), -13);
        e.is("tape(0, 0, -1)", x.tape(0, 0, -1), -14);
    }

    private static void answers(Edges e) {
        SnoozeRow x = new SnoozeRow();
        e.is("owe(0, 1)", x.owe(0, 1), -1);
        e.is("dip(-1)", x.dip(-1), -2);
        e.is("undo()", x.undo(), -3);
        for (int p = 0; p < 6; p++) {
            x.sleeper(0, 0);
        }
        e.is("sleeper(0, 0)", x.sleeper(0, 0), -4);
    }

    private static void constants(Edges e) {
        e.is("mean(0, 0) of none", new SnoozeRow().mean(0, 0), SnoozeRow.NO);
        e.is("odds(0, 0, 0) of none", new SnoozeRow().odds(0, 0, 0), SnoozeRow.NO);
        e.is("read(0, 0) of nothing", new SnoozeRow().read(0, 0), SnoozeRow.NO);
    }

    private static void ofPlain(Edges e) {
        SnoozeRow x = Due.row(0, 0, 5, 7);
        x.owe(1, 62);
        x.pass(1);
        int[] due = {5, 7, 40, 30};
        x.owe(1, 40);
        for (int what = 0; what <= 3; what++) {
            e.is("of(1, " + what + ")", x.of(1, what), due[what]);
        }
    }

    private static void toldPlain(Edges e) {
        SnoozeRow x = Due.row(0, 0);
        Due.street(x, "bear 23");
        x.dip(100);
        x.pass(4);
        e.is("told(0)", x.told(0), 4);
        e.is("told(1)", x.told(1), 23);
        e.is("told(2)", x.told(2), 136);
    }

    private static void odds(Edges e) {
        SnoozeRow x = Due.row(0, 0, 0, 0, 0, 0, 2, 0);
        // 4 mount up each MORNING; without the last one 9
        e.is("odds(2, 9, 0)", x.odds(2, 9, 0), 1);
        e.is("odds(2, 9, 1)", x.odds(2, 9, 1), 4);
        e.is("odds(2, 8, 0)", x.odds(2, 8, 0), 1);
        e.is("odds(2, 8, 1)", x.odds(2, 8, 1), 1);
        e.is("odds(2, 19, 0)", x.odds(2, 19, 0), 0);
        e.is("odds(2, 19, 1)", x.odds(2, 19, 1), 1);
    }

    // ---- BODIES: the fourth one, with v 5, acts with 20

    private static void acts(Edges e, int kind, int act, int answer, int... bodies) {
        SnoozeRow x = Due.row(0, 0, 0, 0, 0, 0, kind, 5);
        e.is("act(3, " + act + ", 20) of KIND " + kind, x.act(3, act, 20), answer);
        for (int i = 0; i < bodies.length; i++) {
            e.is("trace(" + i + ")", x.trace(i), bodies[i]);
        }
        e.is("trace(" + bodies.length + ")", x.trace(bodies.length), NONE);
    }

    private static void threeActs(Edges e) {
        SnoozeRow x = Due.row(0, 5, 0, 5);
        int[] first = {10, 11, 12};
        int[] answers = {21, 16, 32};
        for (int act = 0; act <= 2; act++) {
            e.is("act(1, " + act + ", 20)", x.act(1, act, 20), answers[act]);
            e.is("trace(0)", x.trace(0), first[act]);
        }
        e.is("act(0, 0, 20)", x.act(0, 0, 20), 20);
    }

    private static void sleeperRolls(Edges e) {
        acts(e, 0, 0, 23, 10);
    }

    private static void sleeperYawns(Edges e) {
        acts(e, 0, 1, 18, 11, 10);
        // rolls is the CLERK's: 63 - 5
        acts(e, 2, 1, 58, 11, 30, 10);
    }

    private static void sleeperTells(Edges e) {
        acts(e, 0, 2, 36, 12, 11, 10);
        // yawns is the LODGER's: (18 ^ 6) * 2
        acts(e, 1, 2, 40, 12, 20, 11, 10);
    }

    private static void lodgerYawns(Edges e) {
        acts(e, 1, 1, 20, 20, 11, 10);
    }

    private static void clerkRolls(Edges e) {
        acts(e, 2, 0, 63, 30, 10);
    }

    private static void boyTells(Edges e) {
        // 36, and 1 + 3 - 5
        acts(e, 3, 2, 35, 40, 12, 11, 10, 11, 10);
    }

    private static void lordRolls(Edges e) {
        acts(e, 4, 0, -23, 50, 10);
    }

    private static void lordYawns(Edges e) {
        // (-24 - 5) ^ 6
        acts(e, 4, 1, -27, 51, 20, 11, 50, 10);
    }

    private static void nurseTells(Edges e) {
        // ((20 - 3) * 3 + 3 - 5) * 2
        acts(e, 5, 2, 98, 60, 12, 11, 30, 10);
    }

    private static void toldYawns(Edges e) {
        // (23 ^ 5) - 5, and 2 + 3
        acts(e, 6, 1, 18, 70, 11, 71, 10, 10);
    }

    private static void toldRolls(Edges e) {
        acts(e, 6, 0, 18, 71, 10);
    }

    private static void bodyOfItsKind(Edges e) {
        int[] rolls = {10, 10, 30, 10, 50, 30, 71};
        int[] yawns = {11, 20, 11, 11, 51, 11, 70};
        int[] tells = {12, 12, 12, 40, 12, 60, 40};
        for (int kind = 0; kind <= 6; kind++) {
            SnoozeRow x = Due.row(kind, 5);
            x.act(0, 0, 20);
            e.is("trace(0), rolls of KIND " + kind, x.trace(0), rolls[kind]);
            x.act(0, 1, 20);
            e.is("trace(0), yawns of KIND " + kind, x.trace(0), yawns[kind]);
            x.act(0, 2, 20);
            e.is("trace(0), tells of KIND " + kind, x.trace(0), tells[kind]);
        }
    }
}
