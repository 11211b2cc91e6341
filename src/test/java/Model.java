import java.util.ArrayList;
import java.util.HashSet;
import java.util.List;
import java.util.Set;

/**
 * The document once more, written as near to its words as can be and in other ways than the class:
 * the FAULT by all ways in which a STREET can go on, an E by looking at its text anew each time,
 * the BODIES by a table. Slow; ModelTest holds the class against it.
 */
final class Model {
    static final int[] ABOVE = {-1, 0, 0, 0, 1, 2, 3};

    static final class One {
        int number, kind, v, owed, lived;
        boolean away;
        int[] row = new int[4];

        One copy() {
            One c = new One();
            c.number = number;
            c.kind = kind;
            c.v = v;
            c.owed = owed;
            c.lived = lived;
            c.away = away;
            c.row = row.clone();
            return c;
        }
    }

    static final class All {
        List<One> ones = new ArrayList<>();
        int deep, morning;
        String street;
        List<int[]> seen = new ArrayList<>(), plan = new ArrayList<>(), book = new ArrayList<>();

        All copy() {
            All c = new All();
            for (One o : ones) {
                c.ones.add(o.copy());
            }
            c.deep = deep;
            c.morning = morning;
            c.street = street;
            c.seen.addAll(seen);
            c.plan.addAll(plan);
            c.book.addAll(book);
            return c;
        }
    }

    All all = new All();
    All image;
    String text = "";
    int streets;
    List<Integer> trace = new ArrayList<>();
    Object[] tapes = new Object[6];

    // ---- the FAULT: all stacks of signs and words still to come, sign by sign

    static int fault(String text) {
        Set<String> ways = new HashSet<>();
        ways.add("S0 ");
        for (int at = 0; at < text.length(); at++) {
            Set<String> next = new HashSet<>();
            for (String way : ways) {
                step(way, text.charAt(at), next);
            }
            if (next.isEmpty()) {
                return at;
            }
            ways = next;
        }
        for (String way : ways) {
            if (mayEnd(way)) {
                return -1;
            }
        }
        return text.length();
    }

    /** A way is words of two signs and a blank: 'x for a sign, the rest for rules. */
    static String word(char a, int b) {
        return "" + a + (char) b + " ";
    }

    static String signs(String signs) {
        StringBuilder b = new StringBuilder();
        for (char c : signs.toCharArray()) {
            b.append(word('\'', c));
        }
        return b.toString();
    }

    static List<String> expand(char rule, int n) {
        List<String> to = new ArrayList<>();
        String e = word('E', '0');
        switch (rule) {
            case 'S':
                String more = n < 9 ? word('M', '0' + n) : "";
                to.add(signs("late ") + word('N', '0') + signs(" ") + e + more);
                to.add(signs("soon ") + word('N', '0') + signs(" ") + e + more);
                to.add(signs("bear ") + word('N', '0') + more);
                break;
            case 'M':
                to.add("");
                to.add(signs(";") + word('S', '0' + n + 1));
                break;
            case 'N':
                to.add(word('D', '0'));
                to.add(word('D', '0') + word('D', '0'));
                break;
            case 'D':
                for (char d = '0'; d <= '9'; d++) {
                    to.add(signs("" + d));
                }
                break;
            case 'E':
                to.add(word('T', '0' + n));
                to.add(word('T', '0' + n) + signs("|") + word('E', '0' + n));
                break;
            case 'T':
                to.add(word('F', '0' + n));
                to.add(word('F', '0' + n) + signs("&") + word('T', '0' + n));
                break;
            default:
                for (char letter : "pkvolm".toCharArray()) {
                    for (char sign : "<=>".toCharArray()) {
                        to.add(signs("" + letter + sign) + word('N', '0'));
                    }
                }
                if (n < 4) {
                    to.add(signs("!") + word('F', '0' + n + 1));
                    to.add(signs("(") + word('E', '0' + n + 1) + signs(")"));
                }
        }
        return to;
    }

    static void step(String way, char sign, Set<String> next) {
        if (way.isEmpty()) {
            return;
        }
        String rest = way.substring(3);
        if (way.charAt(0) == '\'') {
            if (way.charAt(1) == sign) {
                next.add(rest);
            }
            return;
        }
        for (String to : expand(way.charAt(0), way.charAt(1) - '0')) {
            step(to + rest, sign, next);
        }
    }

    static boolean mayEnd(String way) {
        return way.isEmpty() || way.charAt(0) == 'M' && mayEnd(way.substring(3));
    }

    // ---- E, SUM, URGE

    /** Where a sign stands outside of all ( ), from a place on; -1: nowhere. */
    static int outside(String e, char sign) {
        int open = 0;
        for (int i = 0; i < e.length(); i++) {
            char c = e.charAt(i);
            open += c == '(' ? 1 : c == ')' ? -1 : 0;
            if (open == 0 && c == sign) {
                return i;
            }
        }
        return -1;
    }

    static boolean holds(String e, All a, One o) {
        int or = outside(e, '|');
        if (or >= 0) {
            return holds(e.substring(0, or), a, o) || holds(e.substring(or + 1), a, o);
        }
        int and = outside(e, '&');
        if (and >= 0) {
            return holds(e.substring(0, and), a, o) && holds(e.substring(and + 1), a, o);
        }
        if (e.startsWith("!")) {
            return !holds(e.substring(1), a, o);
        }
        if (e.startsWith("(")) {
            return holds(e.substring(1, e.length() - 1), a, o);
        }
        int n = Integer.parseInt(e.substring(2));
        int is = switch (e.charAt(0)) {
            case 'p' -> o.number;
            case 'k' -> o.kind;
            case 'v' -> o.v;
            case 'o' -> o.owed / 10;
            case 'l' -> o.lived / 10;
            default -> a.morning % 10;
        };
        return e.charAt(1) == '<' ? is < n : e.charAt(1) == '=' ? is == n : is > n;
    }

    static String[] clauses(All a) {
        return a.street == null ? new String[0] : a.street.split(";");
    }

    static int bear(All a) {
        int bear = 40;
        for (String clause : clauses(a)) {
            if (clause.startsWith("bear")) {
                bear = Integer.parseInt(clause.substring(5));
            }
        }
        return bear;
    }

    static int sum(All a, One o) {
        int sum = 9;
        for (String clause : clauses(a)) {
            String[] parts = clause.split(" ");
            if (parts.length == 3 && holds(parts[2], a, o)) {
                sum += (parts[0].equals("late") ? 1 : -1) * Integer.parseInt(parts[1]);
            }
        }
        return sum;
    }

    static int urge(All a, One o) {
        int sum = sum(a, o);
        return switch (o.kind) {
            case 0 -> sum;
            case 1 -> sum + o.v;
            case 2 -> sum / 2;
            case 3 -> sum - Math.min(9, o.lived / 10);
            case 4 -> (o.owed == 0 ? 2 : 1) * (sum + o.v);
            case 5 -> a.morning % 7 == 6 ? 0 : sum / 2;
            default -> sum - Math.min(9, o.lived / 10) + o.row[a.morning % 4];
        };
    }

    // ---- MORNINGS

    static One next(All a, One from) {
        for (One o : a.ones) {
            if (o.number > from.number && !o.away) {
                return o;
            }
        }
        return null;
    }

    static void comes(All a, One from, int much) {
        One to = next(a, from);
        if (to == null) {
            a.deep = Math.min(9999, a.deep + much);
        } else {
            to.owed = Math.min(9999, to.owed + much);
        }
    }

    static All goes(All a, int n) {
        for (int i = 0; i < n; i++) {
            for (One o : a.ones) {
                if (o.away) {
                    continue;
                }
                comes(a, o, Math.min(60, Math.max(0, urge(a, o))));
                int does = Math.min(o.owed, 30);
                o.owed -= does;
                o.lived = Math.min(9999, o.lived + does);
                int more = o.owed - bear(a);
                if (more > 0) {
                    comes(a, o, more);
                    o.owed = bear(a);
                }
            }
            a.morning++;
        }
        return a;
    }

    // ---- the calls

    boolean is(int p) {
        return p >= 0 && p < all.ones.size();
    }

    static boolean in(int n, int from, int to) {
        return from <= n && n <= to;
    }

    int sleeper(int kind, int v) {
        if (!in(kind, 0, 6)) {
            return -1;
        }
        if (!in(v, 0, 9)) {
            return -2;
        }
        if (all.ones.size() >= 6) {
            return -4;
        }
        One o = new One();
        o.number = all.ones.size();
        o.kind = kind;
        o.v = v;
        all.ones.add(o);
        return o.number;
    }

    int of(int p, int what) {
        if (!is(p) || !in(what, 0, 8)) {
            return -10001;
        }
        One o = all.ones.get(p);
        return switch (what) {
            case 0 -> o.kind;
            case 1 -> o.v;
            case 2 -> o.owed;
            case 3 -> o.lived;
            case 4 -> o.away ? 1 : 0;
            case 5 -> urge(all, o);
            case 6 -> o.away || next(all, o) == null ? -5 : next(all, o).number;
            case 7 -> fit(p, true).size();
            default -> fit(p, true).isEmpty() ? -5 : fit(p, true).get(0);
        };
    }

    List<Integer> fit(int p, boolean owed) {
        List<Integer> fit = new ArrayList<>();
        for (int x = 0; x <= (owed ? 99 : 9); x++) {
            boolean so = true;
            for (int[] row : all.seen) {
                All a = all.copy();
                if (owed) {
                    a.ones.get(p).owed = x;
                } else {
                    a.ones.get(p).v = x;
                }
                so = so && goes(a, row[1]).ones.get(row[0]).owed == row[2];
            }
            if (so) {
                fit.add(x);
            }
        }
        return fit;
    }

    int owe(int p, int n) {
        if (!is(p)) {
            return -1;
        }
        if (!in(n, 0, 9999)) {
            return -2;
        }
        int was = all.ones.get(p).owed;
        all.ones.get(p).owed = n;
        return was;
    }

    int away(int p, boolean away) {
        if (!is(p)) {
            return -1;
        }
        boolean was = all.ones.get(p).away;
        all.ones.get(p).away = away;
        return was ? 1 : 0;
    }

    int dip(int n) {
        if (!in(n, 0, 9999)) {
            return -2;
        }
        int was = all.deep;
        all.deep = n;
        return was;
    }

    int row(int p, int part, int n) {
        if (!is(p) || !in(part, 0, 3)) {
            return -1;
        }
        if (!in(n, 0, 9)) {
            return -2;
        }
        if (all.ones.get(p).kind != 6) {
            return -3;
        }
        int was = all.ones.get(p).row[part];
        all.ones.get(p).row[part] = n;
        return was;
    }

    int feed(int sign) {
        if (!in(sign, 0, 127)) {
            return -2;
        }
        if (text.length() >= 100) {
            return -4;
        }
        text += (char) sign;
        return text.length();
    }

    int street() {
        if (streets >= 6) {
            return -4;
        }
        String read = text;
        text = "";
        int fault = fault(read);
        if (fault >= 0) {
            return -10 - fault;
        }
        all.street = read;
        return streets++;
    }

    int told(int what) {
        int bits = 0, owed = 0, lived = 0;
        for (One o : all.ones) {
            bits += o.away ? 1 << o.number : 0;
            owed += o.owed;
            lived += o.lived;
        }
        int[] told = {all.morning, bear(all), all.deep, bits, owed, lived};
        return in(what, 0, 5) ? told[what] : -1;
    }

    int pass(int n) {
        if (!in(n, 0, 60)) {
            return -2;
        }
        if (all.morning + n > 9999) {
            return -3;
        }
        return goes(all, n).morning;
    }

    int on(int n, int what) {
        if (what != 0 && !(what >= 10 && is(what - 10)) && !(what >= 20 && is(what - 20))) {
            return -1;
        }
        if (!in(n, 0, 60)) {
            return -2;
        }
        All a = goes(all.copy(), n);
        return what == 0 ? a.deep : what < 20 ? a.ones.get(what - 10).owed : a.ones.get(what - 20).lived;
    }

    int fills(int q) {
        if (!in(q, 0, 9999)) {
            return -2;
        }
        for (int n = 0; n <= 60; n++) {
            if (goes(all.copy(), n).deep >= q) {
                return n;
            }
        }
        return -5;
    }

    int deepBy(int bits, int n) {
        All a = all.copy();
        for (One o : a.ones) {
            o.away = o.away || (bits & 1 << o.number) != 0;
        }
        return goes(a, n).deep;
    }

    int best(int n, int what) {
        if (!in(what, 0, 1)) {
            return -1;
        }
        if (!in(n, 1, what == 0 ? 20 : 12)) {
            return -2;
        }
        int best = -5;
        if (what == 0) {
            for (One o : all.ones) {
                int than = best == -5 ? deepBy(0, n) : deepBy(1 << best, n);
                if (!o.away && deepBy(1 << o.number, n) < than) {
                    best = o.number;
                }
            }
            return best;
        }
        for (int many = 0; many <= 6; many++) {
            for (int bits = 0; bits < 64; bits++) {
                boolean there = true;
                for (int p = 0; p < 6; p++) {
                    there = there && ((bits & 1 << p) == 0 || is(p) && !all.ones.get(p).away);
                }
                if (there && Integer.bitCount(bits) == many && deepBy(bits, n) <= all.deep) {
                    return bits;
                }
            }
        }
        return -5;
    }

    int see(int p, int n, int owed) {
        if (p == -1) {
            all.seen.clear();
            return 0;
        }
        if (!is(p)) {
            return -1;
        }
        if (!in(n, 0, 12) || !in(owed, 0, 99)) {
            return -2;
        }
        return add(all.seen, 5, p, n, owed);
    }

    static int add(List<int[]> rows, int most, int... row) {
        if (rows.size() >= most) {
            return -4;
        }
        rows.add(row);
        return rows.size();
    }

    int can(int p, int what) {
        if (!is(p) || !in(what, 0, 1)) {
            return -1;
        }
        List<Integer> fit = fit(p, false);
        return what == 0 ? fit.size() : fit.isEmpty() ? -5 : fit.get(0);
    }

    static long lowest(long above, long below, int part) {
        if (below == 0) {
            return Long.MIN_VALUE;
        }
        long a = above, b = below;
        while (b != 0) {
            long c = a % b;
            a = b;
            b = c;
        }
        return part == 0 ? above / a : below / a;
    }

    long odds(int n, int q, int part) {
        if (!in(n, 0, 20) || !in(q, 0, 9999) || !in(part, 0, 1)) {
            return Long.MIN_VALUE;
        }
        int of = 0, so = 0;
        for (One o : all.ones) {
            of += o.away ? 0 : 1;
            so += !o.away && deepBy(1 << o.number, n) >= q ? 1 : 0;
        }
        return lowest(so, of, part);
    }

    long mean(int n, int part) {
        if (!in(n, 0, 60) || !in(part, 0, 1)) {
            return Long.MIN_VALUE;
        }
        long owed = 0;
        for (One o : goes(all.copy(), n).ones) {
            owed += o.owed;
        }
        return lowest(owed, all.ones.size(), part);
    }

    int plan(int what, int p) {
        if (what == -1) {
            all.plan.clear();
            return 0;
        }
        if (!in(what, 0, 3) || what > 0 && !is(p)) {
            return -1;
        }
        return add(all.plan, 10, what, p);
    }

    int ends(int what) {
        if (!in(what, 0, 1)) {
            return -1;
        }
        All a = all.copy();
        for (int[] row : all.plan) {
            if (row[0] == 0) {
                goes(a, 1);
            } else if (row[0] == 1) {
                a.ones.get(row[1]).away = true;
            } else if (row[0] == 2) {
                a.ones.get(row[1]).away = false;
            } else {
                a.ones.get(row[1]).owed = 0;
            }
        }
        int lived = 0;
        for (One o : a.ones) {
            lived += o.lived;
        }
        return what == 0 ? a.deep : lived;
    }

    int book(int p, int owed) {
        if (p == -1) {
            all.book.clear();
            return 0;
        }
        if (!is(p)) {
            return -1;
        }
        if (!in(owed, 0, 9999)) {
            return -2;
        }
        return add(all.book, 8, p, owed);
    }

    int looked() {
        for (int[] row : all.book) {
            if (all.ones.get(row[0]).owed != row[1]) {
                return all.book.indexOf(row);
            }
        }
        return -5;
    }

    int judge(int tape, int i) {
        if (!in(tape, 0, 5)) {
            return -1;
        }
        int[] row = {};
        if (tapes[tape] instanceof int[] ints) {
            row = ints;
        } else if (tapes[tape] != null) {
            return -12;
        }
        for (One o : all.ones) {
            long at = (long) i + o.number;
            if (i < 0 || at >= row.length) {
                return 100 + o.number;
            }
            if (row[(int) at] != o.owed) {
                return o.number;
            }
        }
        return -5;
    }

    int image() {
        image = all.copy();
        return all.ones.size();
    }

    int undo() {
        if (image == null) {
            return -3;
        }
        all = image.copy();
        return all.ones.size();
    }

    // ---- ACTS, by a table of which KIND has which body

    static final int[][] BODIES = {{10, 11, 12}, {0, 20, 0}, {30, 0, 0}, {0, 0, 40}, {50, 51, 0},
        {0, 0, 60}, {71, 70, 0}};

    int run(One o, int from, int act, int x) {
        int kind = from;
        while (BODIES[kind][act] == 0) {
            kind = ABOVE[kind];
        }
        int body = BODIES[kind][act];
        trace.add(body);
        int up = ABOVE[kind];
        switch (body) {
            case 10:
                return x + o.number;
            case 11:
                return run(o, o.kind, 0, x) - o.v;
            case 12:
                return run(o, o.kind, 1, x) * 2;
            case 20:
                return run(o, up, 1, x) ^ 6;
            case 30:
                return run(o, up, 0, x * 3);
            case 40:
                int first = run(o, up, 2, x);
                return first + run(o, o.kind, 1, 1);
            case 50:
                return -run(o, up, 0, x);
            case 51:
                return run(o, up, 1, x + 1);
            case 60:
                return run(o, up, 2, x - o.number);
            case 70:
                int yawned = run(o, up, 1, x);
                return yawned + run(o, up, 0, 2);
            default:
                return run(o, up, 0, x) ^ o.v;
        }
    }

    int act(int p, int act, int x) {
        trace.clear();
        return is(p) && in(act, 0, 2) ? run(all.ones.get(p), all.ones.get(p).kind, act, x) : 0;
    }

    int trace(int i) {
        return in(i, 0, Math.min(20, trace.size()) - 1) ? trace.get(i) : -1;
    }

    int taken(int p, int k) {
        if (!in(k, 0, 6)) {
            return -2;
        }
        if (!is(p)) {
            return -11;
        }
        int kind = all.ones.get(p).kind;
        for (int up = kind; up >= 0; up = ABOVE[up]) {
            if (up == k) {
                return kind;
            }
        }
        return -12;
    }

    int count(int what) {
        int[] many = {all.ones.size(), streets, all.seen.size(), all.plan.size(), all.book.size(),
            text.length(), trace.size()};
        return in(what, 0, 6) ? many[what] : -2;
    }

    // ---- TAPES, as arrays of their own sorts

    int tape(int tape, int sort, int n) {
        if (!in(tape, 0, 5)) {
            return -1;
        }
        if (!in(sort, -1, 4) || sort >= 0 && n > 60) {
            return -2;
        }
        if (sort >= 0 && n < 0) {
            return -14;
        }
        tapes[tape] = switch (sort) {
            case 0 -> new byte[n];
            case 1 -> new short[n];
            case 2 -> new int[n];
            case 3 -> new long[n];
            case 4 -> new boolean[n];
            default -> null;
        };
        return 1;
    }

    int item(int tape, int i, long v) {
        if (!in(tape, 0, 5)) {
            return -1;
        }
        Object row = tapes[tape];
        if (row == null) {
            return -11;
        }
        if (!in(i, 0, java.lang.reflect.Array.getLength(row) - 1)) {
            return -13;
        }
        if (row instanceof byte[] b) {
            b[i] = (byte) v;
        } else if (row instanceof short[] s) {
            s[i] = (short) v;
        } else if (row instanceof int[] n) {
            n[i] = (int) v;
        } else if (row instanceof long[] l) {
            l[i] = v;
        } else {
            ((boolean[]) row)[i] = v != 0;
        }
        return 1;
    }

    long read(int tape, int i) {
        if (!in(tape, 0, 5) || tapes[tape] == null
            || !in(i, 0, java.lang.reflect.Array.getLength(tapes[tape]) - 1)) {
            return Long.MIN_VALUE;
        }
        Object row = tapes[tape];
        return row instanceof boolean[] b ? (b[i] ? 1 : 0) : java.lang.reflect.Array.getLong(row, i);
    }

    int shift(int tape, int i, int other, int j, int n) {
        if (!in(tape, 0, 5) || !in(other, 0, 5)) {
            return -1;
        }
        if (tapes[tape] == null || tapes[other] == null) {
            return -11;
        }
        if (tapes[tape].getClass() != tapes[other].getClass()) {
            return -12;
        }
        long end = java.lang.reflect.Array.getLength(tapes[tape]);
        long otherEnd = java.lang.reflect.Array.getLength(tapes[other]);
        if (n < 0 || i < 0 || j < 0 || (long) i + n > end || (long) j + n > otherEnd) {
            return -13;
        }
        System.arraycopy(tapes[tape], i, tapes[other], j, n);
        return n;
    }
}
