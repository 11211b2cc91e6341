import java.util.Random;

/**
 * Promises 1 to 33 at once: runs of calls picked by a fixed seed, each answered as by the Model.
 * At most 512 calls an object, as the document allows.
 */
public final class ModelTest {
    private static final int RUNS = 700, CALLS = 512;
    private static final int[] EDGES = {-10001, -5, -2, -1, 0, 1, 59, 60, 61, 99, 100, 127, 128, 9998, 9999,
        10000, Integer.MAX_VALUE, Integer.MIN_VALUE, Integer.MAX_VALUE - 1};

    private final Random random;
    private final SnoozeRow row = new SnoozeRow();
    private final Model model = new Model();
    private final StringBuilder story = new StringBuilder();
    private int calls;
    private boolean failed;

    private ModelTest(long seed) {
        random = new Random(seed);
    }

    public static void main(String[] args) {
        long from = args.length > 0 ? Long.parseLong(args[0]) : 0;
        int runs = args.length > 1 ? Integer.parseInt(args[1]) : RUNS;
        int wrong = 0;
        long calls = 0;
        for (int run = 0; run < runs && wrong < 3; run++) {
            ModelTest test = new ModelTest(from + run);
            test.run();
            calls += test.calls;
            if (test.failed) {
                wrong++;
                System.out.println("run " + (from + run) + ": ");
                System.out.println(test.story);
            }
        }
        System.out.println(calls + " calls in " + runs + " runs, " + wrong + " runs not as the model");
        System.exit(wrong == 0 ? 0 : 1);
    }

    private void run() {
        int first = random.nextInt(7);
        for (int i = 0; i < first; i++) {
            same("sleeper", kind(), pick(0, 9));
        }
        boolean tapes = random.nextInt(6) == 0;
        for (int t = 0; tapes && t < 6; t++) {
            same("tape", t, t % 5, pick(2, 9));
        }
        while (calls < CALLS && !failed) {
            if (random.nextInt(40) == 0) {
                feedStreet();
            } else if (tapes && random.nextInt(3) != 0) {
                tapes();
            } else {
                call(random.nextInt(33));
            }
        }
    }

    private int pick(int from, int to) {
        return from + random.nextInt(to - from + 1);
    }

    /** Mostly within the bounds, else at or beyond them. */
    private int near(int from, int to) {
        int how = random.nextInt(24);
        if (how == 0) {
            return from - 1;
        }
        if (how == 1) {
            return to + 1;
        }
        if (how == 2) {
            return EDGES[random.nextInt(EDGES.length)];
        }
        return how == 3 ? to : pick(from, to);
    }

    private int kind() {
        return near(0, 6);
    }

    private int who() {
        int many = model.all.ones.size();
        return random.nextInt(12) == 0 ? near(0, 5) : many == 0 ? 0 : random.nextInt(many);
    }

    private int amount() {
        int how = random.nextInt(4);
        return how == 0 ? near(0, 9999) : how == 1 ? pick(0, 60) : how == 2 ? pick(0, 300) : pick(0, 99);
    }

    private void call(int which) {
        switch (which) {
            case 0 -> same("sleeper", kind(), near(0, 9));
            case 1, 2, 3 -> same("of", who(), near(0, 8));
            case 4, 5 -> same("owe", who(), amount());
            case 6 -> same("away", who(), random.nextInt(3) == 0 ? 1 : 0);
            case 7 -> same("dip", random.nextInt(3) == 0 ? near(0, 9999) : pick(0, 400));
            case 8 -> same("row", who(), near(0, 3), near(0, 9));
            case 9 -> same("feed", random.nextInt(9) == 0 ? near(0, 127) : near(128, 300));
            case 10 -> same("told", near(0, 5));
            case 11 -> same("pass", random.nextInt(3) == 0 ? near(0, 60) : pick(0, 4));
            case 12 -> same("on", near(0, 60), random.nextInt(3) * 10 + near(0, 5));
            case 13 -> same("fills", random.nextInt(4) == 0 ? near(0, 9999) : model.all.deep + pick(0, 200));
            case 14 -> same("best", near(1, 20), 0);
            case 15 -> same("best", near(1, 12), random.nextInt(12) == 0 ? near(0, 1) : 1);
            case 16 -> seeIt();
            case 17 -> same("can", who(), near(0, 1));
            case 18, 19 -> same("odds", near(0, 20), model.all.deep + pick(-1, 300), near(0, 1));
            case 20 -> same("mean", near(0, 60), near(0, 1));
            case 21 -> same("plan", random.nextInt(12) == 0 ? -1 : near(0, 3), who());
            case 22 -> same("ends", near(0, 1));
            case 23 -> bookIt();
            case 24 -> same("looked");
            case 25 -> same("image");
            case 26 -> same("undo");
            case 27, 28 -> acts();
            case 29 -> same("taken", who(), near(0, 6));
            case 30 -> same("count", near(0, 6));
            default -> tapes();
        }
    }

    /** Half of what is SEEN is what will be, so that OWES and CAN have answers. */
    private void seeIt() {
        int p = random.nextInt(6) == 0 ? -1 : who();
        int n = near(0, 12);
        int owed = near(0, 99);
        if (model.is(p) && n >= 0 && n <= 12 && random.nextInt(4) != 0) {
            owed = Model.goes(model.all.copy(), n).ones.get(p).owed;
        }
        same("see", p, n, owed);
        int asked = random.nextInt(3) == 0 ? p : who();
        if (random.nextBoolean()) {
            same("of", asked, 7);
            same("of", asked, 8);
        } else {
            same("can", asked, 0);
            same("can", asked, 1);
        }
    }

    private void bookIt() {
        int p = random.nextInt(6) == 0 ? -1 : who();
        boolean right = model.is(p) && random.nextInt(3) != 0;
        same("book", p, right ? model.all.ones.get(p).owed : near(0, 9999));
    }

    private void acts() {
        same("act", who(), near(0, 2), random.nextInt(3) == 0 ? random.nextInt() : near(0, 20));
        same("count", 6);
        for (int i = 0; i < 13; i++) {
            same("trace", random.nextInt(8) == 0 ? near(0, 20) : i);
        }
    }

    private void tapes() {
        int tape = near(0, 5);
        int sort = random.nextInt(3) == 0 ? near(-1, 4) : 2;
        switch (random.nextInt(9)) {
            case 0, 1 -> same("tape", tape, sort, random.nextInt(3) == 0 ? near(0, 60) : pick(2, 9));
            case 2, 3 -> {
                int i = near(0, 9);
                same("item", tape, i, random.nextInt());
                same("read", tape, i);
            }
            case 4 -> same("read", tape, near(0, 9));
            case 5 -> same("judge", tape, near(0, 4));
            case 6, 7 -> {
                int other = near(0, 5);
                same("shift", tape, near(0, 4), other, near(0, 4), near(0, 4));
                for (int i = 0; i < 6; i++) {
                    same("read", other, i);
                }
            }
            default -> {
                same("tape", 3, 2, pick(0, 9));
                for (int p = 0; p < model.all.ones.size(); p++) {
                    int owed = model.all.ones.get(p).owed + (random.nextInt(8) == 0 ? 1 : 0);
                    same("item", 3, p + 1, owed);
                }
                same("judge", 3, 1);
            }
        }
    }

    // ---- texts that are STREETS, or nearly

    private void feedStreet() {
        StringBuilder text = new StringBuilder();
        int clauses = random.nextInt(6) == 0 ? pick(8, 12) : pick(1, 4);
        for (int c = 0; c < clauses; c++) {
            text.append(c == 0 ? "" : ";").append(clause(clauses > 5));
        }
        if (random.nextInt(3) == 0) {
            int at = random.nextInt(text.length());
            String signs = "late soon bear!!(()&||<=>;0123456789pkvolm";
            switch (random.nextInt(4)) {
                case 0 -> text.deleteCharAt(at);
                case 1 -> text.insert(at, signs.charAt(random.nextInt(signs.length())));
                case 2 -> text.setCharAt(at, signs.charAt(random.nextInt(signs.length())));
                default -> text.setLength(at);
            }
        }
        if (!model.text.isEmpty() && random.nextInt(10) != 0) {
            same("street");
        }
        for (int i = 0; i < text.length() && i < 101; i++) {
            same("feed", text.charAt(i));
        }
        same("street");
        same("told", 1);
    }

    private String clause(boolean small) {
        int how = random.nextInt(5);
        if (how == 0 || small && how < 4) {
            return "bear " + pick(0, random.nextBoolean() ? 9 : 99);
        }
        return (how < 3 ? "late " : "soon ") + pick(0, random.nextBoolean() ? 9 : 60) + " " + either(0);
    }

    private String either(int within) {
        int how = random.nextInt(within > 5 ? 1 : 9);
        return switch (how) {
            case 5 -> either(within + 1) + "|" + either(within + 1);
            case 6 -> either(within + 1) + "&" + either(within + 1);
            case 7 -> "!" + either(within + 1);
            case 8 -> "(" + either(within + 1) + ")";
            default -> "" + "pkvolm".charAt(random.nextInt(6)) + "<=>".charAt(random.nextInt(3))
                + pick(0, random.nextInt(4) == 0 ? 99 : 9);
        };
    }

    // ---- the same call to both

    private void same(String name, int... n) {
        if (calls >= CALLS || failed) {
            return;
        }
        calls++;
        long due = asked(name, n);
        long got = answered(name, n);
        story.append(name).append(java.util.Arrays.toString(n)).append(" = ").append(got).append('\n');
        if (got != due) {
            failed = true;
            story.append("  due is ").append(due);
        }
    }

    /** A long whose lowest bits are v, and whose highest are not its sign. */
    private static long wide(int v) {
        return (long) v << 32 | v & 0xffffffffL;
    }

    private long answered(String name, int[] n) {
        return switch (name) {
            case "sleeper" -> row.sleeper(n[0], n[1]);
            case "of" -> row.of(n[0], n[1]);
            case "owe" -> row.owe(n[0], n[1]);
            case "away" -> row.away(n[0], n[1] == 1);
            case "dip" -> row.dip(n[0]);
            case "row" -> row.row(n[0], n[1], n[2]);
            case "feed" -> row.feed(n[0]);
            case "street" -> row.street();
            case "told" -> row.told(n[0]);
            case "pass" -> row.pass(n[0]);
            case "on" -> row.on(n[0], n[1]);
            case "fills" -> row.fills(n[0]);
            case "best" -> row.best(n[0], n[1]);
            case "see" -> row.see(n[0], n[1], n[2]);
            case "can" -> row.can(n[0], n[1]);
            case "odds" -> row.odds(n[0], n[1], n[2]);
            case "mean" -> row.mean(n[0], n[1]);
            case "plan" -> row.plan(n[0], n[1]);
            case "ends" -> row.ends(n[0]);
            case "book" -> row.book(n[0], n[1]);
            case "looked" -> row.looked();
            case "judge" -> row.judge(n[0], n[1]);
            case "image" -> row.image();
            case "undo" -> row.undo();
            case "act" -> row.act(n[0], n[1], n[2]);
            case "trace" -> row.trace(n[0]);
            case "taken" -> row.taken(n[0], n[1]);
            case "count" -> row.count(n[0]);
            case "tape" -> row.tape(n[0], n[1], n[2]);
            case "item" -> row.item(n[0], n[1], wide(n[2]));
            case "read" -> row.read(n[0], n[1]);
            default -> row.shift(n[0], n[1], n[2], n[3], n[4]);
        };
    }

    private long asked(String name, int[] n) {
        return switch (name) {
            case "sleeper" -> model.sleeper(n[0], n[1]);
            case "of" -> model.of(n[0], n[1]);
            case "owe" -> model.owe(n[0], n[1]);
            case "away" -> model.away(n[0], n[1] == 1);
            case "dip" -> model.dip(n[0]);
            case "row" -> model.row(n[0], n[1], n[2]);
            case "feed" -> model.feed(n[0]);
            case "street" -> model.street();
            case "told" -> model.told(n[0]);
            case "pass" -> model.pass(n[0]);
            case "on" -> model.on(n[0], n[1]);
            case "fills" -> model.fills(n[0]);
            case "best" -> model.best(n[0], n[1]);
            case "see" -> model.see(n[0], n[1], n[2]);
            case "can" -> model.can(n[0], n[1]);
            case "odds" -> model.odds(n[0], n[1], n[2]);
            case "mean" -> model.mean(n[0], n[1]);
            case "plan" -> model.plan(n[0], n[1]);
            case "ends" -> model.ends(n[0]);
            case "book" -> model.book(n[0], n[1]);
            case "looked" -> model.looked();
            case "judge" -> model.judge(n[0], n[1]);
            case "image" -> model.image();
            case "undo" -> model.undo();
            case "act" -> model.act(n[0], n[1], n[2]);
            case "trace" -> model.trace(n[0]);
            case "taken" -> model.taken(n[0], n[1]);
            case "count" -> model.count(n[0]);
            case "tape" -> model.tape(n[0], n[1], n[2]);
            case "item" -> model.item(n[0], n[1], wide(n[2]));
            case "read" -> model.read(n[0], n[1]);
            default -> model.shift(n[0], n[1], n[2], n[3], n[4]);
        };
    }
}
