import java.util.ArrayList;
import java.util.LinkedHashMap;
import java.util.List;
import java.util.Map;
import java.util.function.Supplier;
import java.util.function.ToLongFunction;

/**
 * What the Terms say of all answers: the numbers of the refusals, which of them comes first, and that
 * what is refused or asked changes nothing. That is looked at by twins: two rows are made by the same
 * calls, one of them is asked, and then both are looked through, THE TEXT and THE IMAGE, too.
 */
final class AnswerEdges {
    private static final int NONE = -1, BAD = -2, STATE = -3, FULL = -4, NO_SUCH = -10001;
    private static final int NOTHING = -11, CAST = -12, PLACE = -13, SIZE = -14;
    private static final long NO = Long.MIN_VALUE;

    static void all(Edges e) {
        e.says("Terms", "NONE (-1) no such number", x -> x.is("NONE", SnoozeRow.NONE, -1));
        e.says("Terms", "BAD (-2) a number is not as told", x -> x.is("BAD", SnoozeRow.BAD, -2));
        e.says("Terms", "STATE (-3) as told", x -> x.is("STATE", SnoozeRow.STATE, -3));
        e.says("Terms", "FULL (-4)", x -> x.is("FULL", SnoozeRow.FULL, -4));
        e.says("Terms", "the first that a call's words name", AnswerEdges::firstNamed);
        e.says("Terms", "Where it may be below 0, -10001 stands for NONE.", AnswerEdges::noSuchBelow0);
        e.says("Terms", "What is answered so changes nothing;", AnswerEdges::refusedChangesNothing);
        e.says("Terms", "what is asked changes nothing.", AnswerEdges::askedChangesNothing);
        e.says("Terms", "`NO = Long.MIN_VALUE`: There is no such number.", x -> x.is("NO", SnoozeRow.NO, NO));
    }

    // ---- rows to look at

    /** A row with something of all there is, and an IMAGE that is otherwise. */
    private static SnoozeRow house() {
        SnoozeRow x = Due.row(6, 3, 1, 4, 5, 2, 4, 9);
        x.owe(0, 50);
        x.owe(1, 7);
        x.owe(2, 33);
        x.row(0, 1, 5);
        x.away(2, true);
        Due.street(x, "late 6 p<2;bear 12");
        x.see(1, 1, 7);
        x.plan(0, 0);
        x.book(0, 50);
        x.image();
        x.owe(3, 21);
        x.pass(2);
        x.dip(77);
        x.see(3, 0, 4);
        x.plan(3, 0);
        x.book(3, 5);
        Due.street(x, "bear 20");
        Due.feeds(x, "bear 3");
        x.act(0, 2, 5);
        x.tape(0, 2, 3);
        x.item(0, 1, 300);
        x.tape(1, 3, 2);
        x.item(1, 0, 300);
        x.tape(2, 2, 2);
        x.tape(3, 4, 1);
        return x;
    }

    /** A row in which there is no place for more of anything. */
    private static SnoozeRow fullHouse() {
        SnoozeRow x = Due.row(6, 3, 1, 4, 5, 2, 4, 9, 0, 0, 3, 1);
        for (int s = 0; s < 6; s++) {
            Due.street(x, "bear 1" + s);
        }
        for (int i = 0; i < 100; i++) {
            x.feed(48 + i % 10);
        }
        for (int i = 0; i < 10; i++) {
            x.see(i % 3, i, 2 * i);
            x.plan(i % 4, i % 3);
            x.book(i % 3, i);
        }
        return x;
    }

    private static SnoozeRow atTheLastMorning() {
        SnoozeRow x = Due.row(0, 0, 5, 3);
        for (int i = 0; i < 166; i++) {
            x.pass(60);
        }
        x.dip(5);
        return x;
    }

    /** All that can be seen of a row; the calls that change it come last. */
    private static List<Long> looksThrough(SnoozeRow x) {
        List<Long> seen = new ArrayList<>();
        looksAtAll(x, seen);
        for (int i = 0; i <= 12; i++) {
            seen.add((long) x.trace(i));
        }
        for (int p = 0; p < 6; p++) {
            seen.add((long) x.of(p, 5));
            seen.add((long) x.of(p, 7));
            seen.add((long) x.of(p, 8));
            seen.add((long) x.can(p, 0));
            for (int part = 0; part < 4; part++) {
                seen.add((long) x.row(p, part, 0));
            }
        }
        for (int tape = 0; tape < 6; tape++) {
            for (int i = 0; i < 4; i++) {
                seen.add(x.read(tape, i));
            }
            // which sort it is of
            seen.add((long) x.item(tape, 0, 1L << 40 | 0x18181));
            seen.add(x.read(tape, 0));
        }
        seen.add((long) x.street());
        seen.add((long) x.count(5));
        seen.add((long) x.undo());
        looksAtAll(x, seen);
        return seen;
    }

    private static void looksAtAll(SnoozeRow x, List<Long> seen) {
        for (int what = 0; what <= 6; what++) {
            seen.add((long) x.told(what));
            seen.add((long) x.count(what));
        }
        for (int p = 0; p < 6; p++) {
            for (int what = 0; what <= 4; what++) {
                seen.add((long) x.of(p, what));
            }
        }
        seen.add((long) x.looked());
        seen.add((long) x.ends(0));
        seen.add((long) x.ends(1));
    }

    private static void changesNothing(Edges e, Supplier<SnoozeRow> made, String call, ToLongFunction<SnoozeRow> asks) {
        SnoozeRow asked = made.get();
        asks.applyAsLong(asked);
        e.is("all that is seen behind " + call + " is as without it",
            looksThrough(asked).equals(looksThrough(made.get())) ? 1 : 0, 1);
    }

    // ---- what is refused

    private static final class Refused {
        final Map<String, ToLongFunction<SnoozeRow>> calls = new LinkedHashMap<>();
        final Map<String, Long> due = new LinkedHashMap<>();

        void add(String call, long answer, ToLongFunction<SnoozeRow> asks) {
            calls.put(call, asks);
            due.put(call, answer);
        }
    }

    private static Refused ofSleepers() {
        Refused r = new Refused();
        r.add("sleeper(-1, 0)", NONE, x -> x.sleeper(-1, 0));
        r.add("sleeper(7, 0)", NONE, x -> x.sleeper(7, 0));
        r.add("sleeper(0, -1)", BAD, x -> x.sleeper(0, -1));
        r.add("sleeper(0, 10)", BAD, x -> x.sleeper(0, 10));
        r.add("of(4, 2)", NO_SUCH, x -> x.of(4, 2));
        r.add("of(0, 9)", NO_SUCH, x -> x.of(0, 9));
        r.add("owe(-1, 5)", NONE, x -> x.owe(-1, 5));
        r.add("owe(4, 5)", NONE, x -> x.owe(4, 5));
        r.add("owe(0, -1)", BAD, x -> x.owe(0, -1));
        r.add("owe(0, 10000)", BAD, x -> x.owe(0, 10000));
        r.add("away(-1, true)", NONE, x -> x.away(-1, true));
        r.add("away(4, true)", NONE, x -> x.away(4, true));
        r.add("dip(-1)", BAD, x -> x.dip(-1));
        r.add("dip(10000)", BAD, x -> x.dip(10000));
        r.add("row(-1, 0, 1)", NONE, x -> x.row(-1, 0, 1));
        r.add("row(4, 0, 1)", NONE, x -> x.row(4, 0, 1));
        r.add("row(0, 4, 1)", NONE, x -> x.row(0, 4, 1));
        r.add("row(0, -1, 1)", NONE, x -> x.row(0, -1, 1));
        r.add("row(0, 1, 10)", BAD, x -> x.row(0, 1, 10));
        r.add("row(0, 1, -1)", BAD, x -> x.row(0, 1, -1));
        r.add("row(1, 1, 9)", STATE, x -> x.row(1, 1, 9));
        r.add("feed(-1)", BAD, x -> x.feed(-1));
        r.add("feed(128)", BAD, x -> x.feed(128));
        r.add("told(6)", NONE, x -> x.told(6));
        return r;
    }

    private static Refused ofMornings() {
        Refused r = new Refused();
        r.add("pass(-1)", BAD, x -> x.pass(-1));
        r.add("pass(61)", BAD, x -> x.pass(61));
        r.add("on(1, 14)", NONE, x -> x.on(1, 14));
        r.add("on(61, 0)", BAD, x -> x.on(61, 0));
        r.add("fills(10000)", BAD, x -> x.fills(10000));
        r.add("best(1, 2)", NONE, x -> x.best(1, 2));
        r.add("best(0, 0)", BAD, x -> x.best(0, 0));
        r.add("best(13, 1)", BAD, x -> x.best(13, 1));
        r.add("see(-2, 0, 0)", NONE, x -> x.see(-2, 0, 0));
        r.add("see(4, 0, 0)", NONE, x -> x.see(4, 0, 0));
        r.add("see(0, 13, 0)", BAD, x -> x.see(0, 13, 0));
        r.add("see(0, 0, 100)", BAD, x -> x.see(0, 0, 100));
        r.add("can(4, 0)", NONE, x -> x.can(4, 0));
        r.add("can(0, 2)", NONE, x -> x.can(0, 2));
        r.add("odds(21, 0, 0)", NO, x -> x.odds(21, 0, 0));
        r.add("odds(0, 10000, 0)", NO, x -> x.odds(0, 10000, 0));
        r.add("odds(0, 0, 2)", NO, x -> x.odds(0, 0, 2));
        r.add("mean(61, 0)", NO, x -> x.mean(61, 0));
        r.add("mean(0, 2)", NO, x -> x.mean(0, 2));
        r.add("plan(-2, 0)", NONE, x -> x.plan(-2, 0));
        r.add("plan(4, 0)", NONE, x -> x.plan(4, 0));
        r.add("plan(1, 4)", NONE, x -> x.plan(1, 4));
        r.add("plan(3, -1)", NONE, x -> x.plan(3, -1));
        r.add("ends(2)", NONE, x -> x.ends(2));
        r.add("book(-2, 0)", NONE, x -> x.book(-2, 0));
        r.add("book(4, 0)", NONE, x -> x.book(4, 0));
        r.add("book(0, 10000)", BAD, x -> x.book(0, 10000));
        r.add("book(0, -1)", BAD, x -> x.book(0, -1));
        return r;
    }

    private static Refused ofTapes() {
        Refused r = new Refused();
        r.add("judge(6, 0)", NONE, x -> x.judge(6, 0));
        r.add("judge(1, 0)", CAST, x -> x.judge(1, 0));
        r.add("trace(99)", NONE, x -> x.trace(99));
        r.add("taken(0, 7)", BAD, x -> x.taken(0, 7));
        r.add("taken(4, 0)", NOTHING, x -> x.taken(4, 0));
        r.add("taken(1, 2)", CAST, x -> x.taken(1, 2));
        r.add("count(7)", BAD, x -> x.count(7));
        r.add("tape(6, 0, 1)", NONE, x -> x.tape(6, 0, 1));
        r.add("tape(0, 5, 1)", BAD, x -> x.tape(0, 5, 1));
        r.add("tape(0, 0, 61)", BAD, x -> x.tape(0, 0, 61));
        r.add("tape(0, 0, -1)", SIZE, x -> x.tape(0, 0, -1));
        r.add("item(6, 0, 1)", NONE, x -> x.item(6, 0, 1));
        r.add("item(5, 0, 1)", NOTHING, x -> x.item(5, 0, 1));
        r.add("item(0, 3, 1)", PLACE, x -> x.item(0, 3, 1));
        r.add("item(0, -1, 1)", PLACE, x -> x.item(0, -1, 1));
        r.add("read(6, 0)", NO, x -> x.read(6, 0));
        r.add("read(0, 3)", NO, x -> x.read(0, 3));
        r.add("shift(6, 0, 0, 0, 1)", NONE, x -> x.shift(6, 0, 0, 0, 1));
        r.add("shift(0, 0, 5, 0, 1)", NOTHING, x -> x.shift(0, 0, 5, 0, 1));
        r.add("shift(0, 1, 1, 0, 1)", CAST, x -> x.shift(0, 1, 1, 0, 1));
        r.add("shift(0, 1, 2, 1, 2)", PLACE, x -> x.shift(0, 1, 2, 1, 2));
        r.add("shift(0, 1, 0, 0, -1)", PLACE, x -> x.shift(0, 1, 0, 0, -1));
        return r;
    }

    private static Refused whenFull() {
        Refused r = new Refused();
        r.add("sleeper(0, 0)", FULL, x -> x.sleeper(0, 0));
        r.add("feed(48)", FULL, x -> x.feed(48));
        r.add("street()", FULL, SnoozeRow::street);
        r.add("see(0, 0, 0)", FULL, x -> x.see(0, 0, 0));
        r.add("plan(0, 0)", FULL, x -> x.plan(0, 0));
        r.add("book(0, 0)", FULL, x -> x.book(0, 0));
        r.add("undo()", STATE, SnoozeRow::undo);
        return r;
    }

    private static void refused(Edges e, Supplier<SnoozeRow> made, Refused refused) {
        refused.calls.forEach((call, asks) -> {
            e.is(call, asks.applyAsLong(made.get()), refused.due.get(call));
            changesNothing(e, made, call, asks);
        });
    }

    private static void refusedChangesNothing(Edges e) {
        refused(e, AnswerEdges::house, ofSleepers());
        refused(e, AnswerEdges::house, ofMornings());
        refused(e, AnswerEdges::house, ofTapes());
        refused(e, AnswerEdges::fullHouse, whenFull());
        Refused late = new Refused();
        late.add("pass(40)", STATE, x -> x.pass(40));
        refused(e, AnswerEdges::atTheLastMorning, late);
    }

    // ---- what is asked

    private static void askedChangesNothing(Edges e) {
        Map<String, ToLongFunction<SnoozeRow>> asked = new LinkedHashMap<>();
        for (int i = 0; i <= 8; i++) {
            int what = i;
            asked.put("of(1, " + what + ")", x -> x.of(1, what));
            asked.put("told(" + what + ")", x -> x.told(what));
            asked.put("count(" + what + ")", x -> x.count(what));
            asked.put("trace(" + what + ")", x -> x.trace(what));
            asked.put("taken(1, " + what + ")", x -> x.taken(1, what));
        }
        asked.put("on(60, 0)", x -> x.on(60, 0));
        asked.put("on(60, 11)", x -> x.on(60, 11));
        asked.put("on(60, 21)", x -> x.on(60, 21));
        asked.put("fills(9999)", x -> x.fills(9999));
        asked.put("best(20, 0)", x -> x.best(20, 0));
        asked.put("best(12, 1)", x -> x.best(12, 1));
        asked.put("can(1, 0)", x -> x.can(1, 0));
        asked.put("can(1, 1)", x -> x.can(1, 1));
        asked.put("odds(20, 100, 0)", x -> x.odds(20, 100, 0));
        asked.put("mean(60, 1)", x -> x.mean(60, 1));
        asked.put("ends(0)", x -> x.ends(0));
        asked.put("ends(1)", x -> x.ends(1));
        asked.put("looked()", SnoozeRow::looked);
        asked.put("judge(0, 0)", x -> x.judge(0, 0));
        asked.put("judge(5, 0)", x -> x.judge(5, 0));
        asked.put("read(0, 1)", x -> x.read(0, 1));
        asked.forEach((call, asks) -> {
            changesNothing(e, AnswerEdges::house, call, asks);
            changesNothing(e, AnswerEdges::fullHouse, call, asks);
        });
        looksFarEnough(e);
    }

    /** The twins are told apart by any change, or they would show nothing. */
    private static void looksFarEnough(Edges e) {
        Map<String, ToLongFunction<SnoozeRow>> changes = new LinkedHashMap<>();
        changes.put("sleeper(0, 0)", x -> x.sleeper(0, 0));
        changes.put("owe(1, 99)", x -> x.owe(1, 99));
        changes.put("away(1, true)", x -> x.away(1, true));
        changes.put("dip(1)", x -> x.dip(1));
        changes.put("row(0, 2, 3)", x -> x.row(0, 2, 3));
        changes.put("feed(48)", x -> x.feed(48));
        changes.put("street()", SnoozeRow::street);
        changes.put("pass(1)", x -> x.pass(1));
        changes.put("see(0, 0, 1)", x -> x.see(0, 0, 1));
        changes.put("plan(0, 0)", x -> x.plan(0, 0));
        changes.put("book(0, 0)", x -> x.book(0, 0));
        changes.put("image()", SnoozeRow::image);
        changes.put("undo()", SnoozeRow::undo);
        changes.put("act(0, 0, 0)", x -> x.act(0, 0, 0));
        changes.put("tape(4, 0, 1)", x -> x.tape(4, 0, 1));
        changes.put("tape(3, 0, 1)", x -> x.tape(3, 0, 1));
        changes.put("item(0, 2, 1)", x -> x.item(0, 2, 1));
        changes.put("shift(0, 1, 2, 0, 1)", x -> x.shift(0, 1, 2, 0, 1));
        changes.forEach((call, does) -> {
            SnoozeRow changed = house();
            does.applyAsLong(changed);
            e.is(call + " is seen", looksThrough(changed).equals(looksThrough(house())) ? 1 : 0, 0);
        });
    }

    // ---- which refusal, and which number

    /** Each two refusals that one call can name at once; the promises' own tests have them one by one. */
    private static void firstNamed(Edges e) {
        SnoozeRow x = fullHouse();
        e.is("sleeper(7, 10): NONE, BAD, FULL", x.sleeper(7, 10), NONE);
        e.is("sleeper(0, 10): BAD, FULL", x.sleeper(0, 10), BAD);
        e.is("owe(6, -1): NONE, BAD", x.owe(6, -1), NONE);
        e.is("row(6, 4, 10): NONE, BAD", x.row(6, 4, 10), NONE);
        e.is("row(1, 4, 10): NONE, BAD, STATE", x.row(1, 4, 10), NONE);
        e.is("row(1, 0, 10): BAD, STATE", x.row(1, 0, 10), BAD);
        e.is("feed(128): BAD, FULL", x.feed(128), BAD);
        e.is("street(): FULL, a FAULT", x.street(), FULL);
        e.is("on(61, 16): NONE, BAD", x.on(61, 16), NONE);
        e.is("best(0, 2): NONE, BAD", x.best(0, 2), NONE);
        e.is("see(6, 13, 100): NONE, BAD, FULL", x.see(6, 13, 100), NONE);
        e.is("see(0, 13, 0): BAD, FULL", x.see(0, 13, 0), BAD);
        e.is("plan(4, 6): NONE, FULL", x.plan(4, 6), NONE);
        e.is("book(6, -1): NONE, BAD, FULL", x.book(6, -1), NONE);
        e.is("book(0, -1): BAD, FULL", x.book(0, -1), BAD);
        e.is("taken(6, 7): BAD, NOTHING", x.taken(6, 7), BAD);
        e.is("tape(6, 5, -1): NONE, BAD, SIZE", x.tape(6, 5, -1), NONE);
        e.is("tape(0, 5, -1): BAD, SIZE", x.tape(0, 5, -1), BAD);
        e.is("item(6, -1, 0): NONE, NOTHING, PLACE", x.item(6, -1, 0), NONE);
        e.is("item(0, -1, 0): NOTHING, PLACE", x.item(0, -1, 0), NOTHING);
        e.is("shift(6, -1, 0, -1, -1): NONE, NOTHING, PLACE", x.shift(6, -1, 0, -1, -1), NONE);
        e.is("shift(0, -1, 1, -1, -1): NOTHING, PLACE", x.shift(0, -1, 1, -1, -1), NOTHING);
        e.is("pass(61): BAD, STATE", atTheLastMorning().pass(61), BAD);
    }

    /** URGE may be -1 to -4, and so what is refused has a number that it can not be. */
    private static void noSuchBelow0(Edges e) {
        for (int below = 1; below <= 5; below++) {
            SnoozeRow x = Due.row(0, 0);
            Due.street(x, "soon " + (9 + below) + " p=0");
            e.is("of(0, 5)", x.of(0, 5), -below);
            e.is("of(1, 5)", x.of(1, 5), NO_SUCH);
        }
        e.is("of(0, 9)", Due.row(0, 0).of(0, 9), NO_SUCH);
        e.is("of(-1, 0)", Due.row(0, 0).of(-1, 0), NO_SUCH);
    }
}
