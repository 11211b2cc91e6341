/** The document's first sentence, "What it is", phrase by phrase: what an object is used for. */
final class StoryEdges {
    private static final String IT = "What it is";

    static void all(Edges e) {
        e.says(IT, "Snoozing is put down to the next: sleepers in a row, door by door,", StoryEdges::putDown);
        e.says(IT, "who each put off some minutes every morning,", StoryEdges::everyMorning);
        e.says(IT, "which come to the next who is there,", StoryEdges::nextThere);
        e.says(IT, "what each owes and does of it,", StoryEdges::owesAndDoes);
        e.says(IT, "what one can not bear and hands on too,", StoryEdges::handsOn);
        e.says(IT, "what mounts up behind the last door,", StoryEdges::mounts);
        e.says(IT, "streets that are texts of what makes one later or earlier when,", StoryEdges::laterOrEarlier);
        e.says(IT, "how much one bears;", StoryEdges::bears);
        e.says(IT, "sleepers of kinds who are lodgers, clerks, boys, lords, nurses, as told;", StoryEdges::kinds);
        e.says(IT, "mornings one by one,", StoryEdges::oneByOne);
        e.says(IT, "how long each snoozes,", StoryEdges::howLong);
        e.says(IT, "who owes what when,", StoryEdges::whoOwesWhen);
        e.says(IT, "how deep it is when,", StoryEdges::howDeepWhen);
        e.says(IT, "who should be away so that it mounts least,", StoryEdges::mountsLeast);
        e.says(IT, "which few being away stop it,", StoryEdges::fewStopIt);
        e.says(IT, "how much one can have owed,", StoryEdges::canHaveOwed);
        e.says(IT, "and how firm one is, by what it owed when,", StoryEdges::howFirm);
        e.says(IT, "odds by who is away,", StoryEdges::odds);
        e.says(IT, "means,", StoryEdges::means);
        e.says(IT, "plans row by row,", StoryEdges::plans);
        e.says(IT, "what is owed told by hand looked at,", StoryEdges::lookedAt);
        e.says(IT, "an image.", StoryEdges::image);
        e.says(IT, "==== 1 SLEEPERS 0 ..", StoryEdges::fromNought);
        e.says(IT, "what later calls answer is free.", StoryEdges::laterCallsEnd);
    }

    /** So many SLEEPERS of KIND 0, each of whom snoozes 9. */
    private static SnoozeRow row(int many) {
        SnoozeRow x = new SnoozeRow();
        for (int p = 0; p < many; p++) {
            x.sleeper(0, 0);
        }
        return x;
    }

    private static void putDown(Edges e) {
        SnoozeRow x = row(2);
        x.pass(1);
        e.is("of(0, 3)", x.of(0, 3), 0);
        e.is("of(1, 3)", x.of(1, 3), 9);
    }

    private static void everyMorning(Edges e) {
        SnoozeRow x = row(1);
        for (int gone = 1; gone <= 5; gone++) {
            x.pass(1);
            e.is("told(2) behind " + gone, x.told(2), 9 * gone);
        }
    }

    private static void nextThere(Edges e) {
        SnoozeRow x = row(3);
        x.away(1, true);
        x.pass(1);
        e.is("of(1, 2)", x.of(1, 2), 0);
        e.is("of(1, 3)", x.of(1, 3), 0);
        e.is("of(2, 3)", x.of(2, 3), 9);
    }

    private static void owesAndDoes(Edges e) {
        SnoozeRow x = row(1);
        x.owe(0, 35);
        x.pass(1);
        e.is("of(0, 2)", x.of(0, 2), 5);
        e.is("of(0, 3)", x.of(0, 3), 30);
    }

    private static void handsOn(Edges e) {
        SnoozeRow x = row(1);
        x.owe(0, 100);
        x.pass(1);
        e.is("of(0, 2)", x.of(0, 2), 40);
        e.is("told(2), 9 and 30", x.told(2), 39);
    }

    private static void mounts(Edges e) {
        SnoozeRow x = row(6);
        x.pass(60);
        e.is("told(2)", x.told(2), 540);
        x.pass(0);
        e.is("told(2), no MORNING more", x.told(2), 540);
    }

    private static void laterOrEarlier(Edges e) {
        SnoozeRow x = row(1);
        Due.street(x, "late 5 m=1;soon 3 m=2");
        e.is("of(0, 5), MORNING 0", x.of(0, 5), 9);
        x.pass(1);
        e.is("of(0, 5), MORNING 1", x.of(0, 5), 14);
        x.pass(1);
        e.is("of(0, 5), MORNING 2", x.of(0, 5), 6);
    }

    private static void bears(Edges e) {
        SnoozeRow x = row(1);
        Due.street(x, "bear 8");
        e.is("told(1)", x.told(1), 8);
        x.owe(0, 100);
        x.pass(1);
        e.is("of(0, 2)", x.of(0, 2), 8);
    }

    private static void kinds(Edges e) {
        // v 4; a LORD owes nothing; a TOLD one's ROW begins with 2
        int[] urges = {9, 13, 4, 9, 26, 4, 11};
        for (int kind = 0; kind <= 6; kind++) {
            SnoozeRow x = Due.row(kind, 4);
            x.row(0, 0, 2);
            e.is("of(0, 0)", x.of(0, 0), kind);
            e.is("of(0, 5) of KIND " + kind, x.of(0, 5), urges[kind]);
        }
    }

    private static void oneByOne(Edges e) {
        SnoozeRow one = Due.row(4, 3, 3, 1, 5, 2);
        SnoozeRow many = Due.row(4, 3, 3, 1, 5, 2);
        many.pass(9);
        for (int gone = 1; gone <= 9; gone++) {
            e.is("pass(1)", one.pass(1), gone);
        }
        for (int what = 0; what <= 5; what++) {
            e.is("told(" + what + ")", one.told(what), many.told(what));
        }
    }

    private static void howLong(Edges e) {
        SnoozeRow x = Due.row(1, 5);
        e.is("of(0, 5)", x.of(0, 5), 14);
        x.pass(1);
        e.is("told(2)", x.told(2), 14);
    }

    private static void whoOwesWhen(Edges e) {
        SnoozeRow x = row(2);
        x.owe(0, 65);
        e.is("on(0, 10)", x.on(0, 10), 65);
        e.is("on(1, 10)", x.on(1, 10), 35);
        e.is("on(2, 10)", x.on(2, 10), 5);
        e.is("on(2, 20)", x.on(2, 20), 60);
    }

    private static void howDeepWhen(Edges e) {
        SnoozeRow x = row(1);
        e.is("on(4, 0)", x.on(4, 0), 36);
        e.is("fills(36)", x.fills(36), 4);
        e.is("fills(37)", x.fills(37), 5);
    }

    /** A LODGER behind a CLERK: 18 mount up each MORNING, without the LODGER 4. */
    private static void mountsLeast(Edges e) {
        SnoozeRow x = Due.row(2, 0, 1, 9);
        e.is("best(3, 0)", x.best(3, 0), 1);
        e.is("on(3, 0)", x.on(3, 0), 54);
        x.away(1, true);
        e.is("on(3, 0), the LODGER is AWAY", x.on(3, 0), 12);
    }

    private static void fewStopIt(Edges e) {
        SnoozeRow x = row(2);
        Due.street(x, "soon 9 p=0");
        e.is("best(5, 1), the last one", x.best(5, 1), 2);
        x.away(1, true);
        e.is("on(5, 0)", x.on(5, 0), 0);
    }

    private static void canHaveOwed(Edges e) {
        SnoozeRow x = row(1);
        x.see(0, 1, 5);
        e.is("of(0, 7), 35 alone", x.of(0, 7), 1);
        e.is("of(0, 8)", x.of(0, 8), 35);
    }

    /** 30 are done of what the LODGER's snoozing is: 31 and v; 4 are left by v 3. */
    private static void howFirm(Edges e) {
        SnoozeRow x = Due.row(1, 0, 0, 0);
        Due.street(x, "late 22 p=0");
        x.see(1, 1, 4);
        e.is("can(0, 0)", x.can(0, 0), 1);
        e.is("can(0, 1)", x.can(0, 1), 3);
    }

    private static void odds(Edges e) {
        SnoozeRow x = Due.row(0, 0, 0, 0, 2, 0);
        // the CLERK's 4 mount up, unless the CLERK is AWAY: then 9
        e.is("odds(1, 9, 0)", x.odds(1, 9, 0), 1);
        e.is("odds(1, 9, 1)", x.odds(1, 9, 1), 3);
    }

    private static void means(Edges e) {
        SnoozeRow x = row(2);
        x.owe(0, 45);
        e.is("mean(0, 0)", x.mean(0, 0), 45);
        e.is("mean(0, 1)", x.mean(0, 1), 2);
        e.is("mean(1, 0)", x.mean(1, 0), 15);
        e.is("mean(1, 1)", x.mean(1, 1), 2);
    }

    private static void plans(Edges e) {
        SnoozeRow x = row(1);
        int[][] rows = {{0, 9}, {0, 18}, {1, 18}, {0, 18}, {2, 18}, {0, 27}};
        for (int r = 0; r < rows.length; r++) {
            e.is("plan(" + rows[r][0] + ", 0)", x.plan(rows[r][0], 0), r + 1);
            e.is("ends(0)", x.ends(0), rows[r][1]);
        }
    }

    private static void lookedAt(Edges e) {
        SnoozeRow x = row(2);
        x.owe(1, 7);
        x.book(0, 0);
        x.book(1, 7);
        e.is("looked()", x.looked(), -5);
        x.owe(1, 8);
        e.is("looked()", x.looked(), 1);
    }

    private static void image(Edges e) {
        SnoozeRow x = row(2);
        x.owe(1, 7);
        x.image();
        x.pass(9);
        x.sleeper(3, 3);
        e.is("undo()", x.undo(), 2);
        e.is("told(0)", x.told(0), 0);
        e.is("of(1, 2)", x.of(1, 2), 7);
    }

    private static void fromNought(Edges e) {
        SnoozeRow x = new SnoozeRow();
        for (int p = 0; p <= 5; p++) {
            e.is("sleeper(0, 0)", x.sleeper(0, 0), p);
        }
    }

    /** What they answer is free, but LANGUAGE.md 7 has them end, and throw nothing. */
    private static void laterCallsEnd(Edges e) {
        SnoozeRow x = row(6);
        int calls = 6;
        for (int i = 0; i < 2000; i++) {
            x.pass(60);
            x.feed('x');
            x.see(0, 12, 0);
            x.plan(0, 0);
            x.act(0, 2, i);
            x.of(0, 7);
            calls += 6;
        }
        e.is("calls that ended", calls, 12006);
    }
}
