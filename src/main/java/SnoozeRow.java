import java.util.Arrays;

/**
 * Sleepers in a row, door by door, whose snoozing is put down to the next.
 * ../shared/DOC.md says what each call answers; the words in capitals are its words.
 */
public final class SnoozeRow {
    public static final int NONE = -1, BAD = -2, STATE = -3, FULL = -4;
    public static final long NO = Long.MIN_VALUE;

    private static final int NOT_SO = -5, FAULTS = -10, NO_SUCH = -10001;
    private static final int NOTHING = -11, CAST = -12, PLACE = -13, SIZE = -14;
    private static final int SLEEPERS = 6, KINDS = 7, STREETS = 6, SIGNS = 100;
    private static final int TOLD_ONE = 6, PARTS = 4, NUMBERS = 10, OWES = 100;
    private static final int MOST = 9999, MORNINGS = 60, SENT = 20, STOP = 12, SEEN = 12;
    private static final int TAPES = 6, SORTS = 5, ITEMS = 60, EMPTY = -1, INTS = 2;
    private static final int ENDED = 100;

    private final Trace ran;
    private final Doors now;
    private final Doors imaged;
    /** All that is only asked is tried out here, so that asking changes nothing and makes nothing. */
    private final Doors trial;
    private boolean imageTaken;
    private final Street[] streets;
    private int streetCount;
    private final byte[] text;
    private int textLength;
    private final long[][] items;
    private final int[] sorts;
    private final int[] sizes;

    public SnoozeRow() {
        ran = new Trace();
        Sleeper[] kinds = {new Sleeper(ran), new Lodger(ran), new Clerk(ran), new Boy(ran),
            new Lord(ran), new Nurse(ran), new Told(ran)};
        text = new byte[SIGNS];
        streets = new Street[STREETS];
        for (int s = 0; s < STREETS; s++) {
            streets[s] = new Street(text);
        }
        now = new Doors(kinds, streets);
        imaged = new Doors(kinds, streets);
        trial = new Doors(kinds, streets);
        items = new long[TAPES][ITEMS];
        sorts = new int[TAPES];
        Arrays.fill(sorts, EMPTY);
        sizes = new int[TAPES];
    }

    // ---- sleepers, streets

    public int sleeper(int kind, int v) {
        if (!isWithin(kind, KINDS)) {
            return NONE;
        }
        if (!isWithin(v, NUMBERS)) {
            return BAD;
        }
        if (now.sleepers == SLEEPERS) {
            return FULL;
        }
        return now.lets(kind, v);
    }

    public int of(int sleeper, int what) {
        if (!now.has(sleeper)) {
            return NO_SUCH;
        }
        switch (what) {
            case 0:
                return now.kind[sleeper];
            case 1:
                return now.v[sleeper];
            case 2:
                return now.owed[sleeper];
            case 3:
                return now.lived[sleeper];
            case 4:
                return now.isAway(sleeper) ? 1 : 0;
            case 5:
                return now.urgeOf(sleeper);
            case 6:
                return now.isAway(sleeper) ? NOT_SO : now.nextOf(sleeper);
            case 7:
                return fitting(sleeper, true, false);
            case 8:
                return fitting(sleeper, true, true);
            default:
                return NO_SUCH;
        }
    }

    public int owe(int sleeper, int n) {
        if (!now.has(sleeper)) {
            return NONE;
        }
        if (!isAmount(n)) {
            return BAD;
        }
        int was = now.owed[sleeper];
        now.owed[sleeper] = n;
        return was;
    }

    public int away(int sleeper, boolean is) {
        if (!now.has(sleeper)) {
            return NONE;
        }
        boolean was = now.isAway(sleeper);
        now.puts(sleeper, is);
        return was ? 1 : 0;
    }

    public int dip(int n) {
        if (!isAmount(n)) {
            return BAD;
        }
        int was = now.deep;
        now.deep = n;
        return was;
    }

    public int row(int sleeper, int part, int n) {
        if (!now.has(sleeper) || !isWithin(part, PARTS)) {
            return NONE;
        }
        if (!isWithin(n, NUMBERS)) {
            return BAD;
        }
        if (now.kind[sleeper] != TOLD_ONE) {
            return STATE;
        }
        int at = sleeper * PARTS + part;
        int was = now.rows[at];
        now.rows[at] = n;
        return was;
    }

    public int feed(int sign) {
        if (sign < 0 || sign > 127) {
            return BAD;
        }
        if (textLength == SIGNS) {
            return FULL;
        }
        text[textLength] = (byte) sign;
        textLength++;
        return textLength;
    }

    public int street() {
        if (streetCount == STREETS) {
            return FULL;
        }
        int length = textLength;
        textLength = 0;
        int fault = streets[streetCount].faultOf(length);
        if (fault != Street.WELL) {
            return FAULTS - fault;
        }
        now.held = streetCount;
        streetCount++;
        return now.held;
    }

    public int told(int what) {
        switch (what) {
            case 0:
                return now.morning;
            case 1:
                return now.bear();
            case 2:
                return now.deep;
            case 3:
                return now.awayBits;
            case 4:
                return now.together(now.owed);
            case 5:
                return now.together(now.lived);
            default:
                return NONE;
        }
    }

    // ---- mornings

    public int pass(int n) {
        if (n < 0 || n > MORNINGS) {
            return BAD;
        }
        if (now.morning + n > MOST) {
            return STATE;
        }
        now.go(n);
        return now.morning;
    }

    public int on(int n, int what) {
        boolean asksOwed = now.has(what - 10);
        boolean asksLived = now.has(what - 20);
        if (what != 0 && !asksOwed && !asksLived) {
            return NONE;
        }
        if (n < 0 || n > MORNINGS) {
            return BAD;
        }
        trial.takes(now);
        trial.go(n);
        if (asksOwed) {
            return trial.owed[what - 10];
        }
        return asksLived ? trial.lived[what - 20] : trial.deep;
    }

    public int fills(int q) {
        if (!isAmount(q)) {
            return BAD;
        }
        trial.takes(now);
        for (int gone = 0; gone < MORNINGS; gone++) {
            if (trial.deep >= q) {
                return gone;
            }
            trial.go(1);
        }
        return trial.deep >= q ? MORNINGS : NOT_SO;
    }

    public int best(int n, int what) {
        if (what != 0 && what != 1) {
            return NONE;
        }
        if (n < 1 || n > (what == 0 ? SENT : STOP)) {
            return BAD;
        }
        return what == 0 ? sentBy(n) : stopBy(n);
    }

    // ---- seen, odds

    public int see(int sleeper, int n, int owed) {
        if (sleeper == -1) {
            return now.seen.clears();
        }
        if (!now.has(sleeper)) {
            return NONE;
        }
        if (n < 0 || n > SEEN || !isWithin(owed, OWES)) {
            return BAD;
        }
        return now.seen.adds(sleeper, n, owed);
    }

    public int can(int sleeper, int what) {
        if (!now.has(sleeper) || what != 0 && what != 1) {
            return NONE;
        }
        return fitting(sleeper, false, what == 1);
    }

    public long odds(int n, int q, int part) {
        if (n < 0 || n > SENT || !isAmount(q) || !isPart(part)) {
            return NO;
        }
        int there = 0;
        int filled = 0;
        for (int p = 0; p < now.sleepers; p++) {
            if (!now.isAway(p)) {
                there++;
                if (deepWithout(1 << p, n) >= q) {
                    filled++;
                }
            }
        }
        return fraction(filled, there, part);
    }

    public long mean(int n, int part) {
        if (n < 0 || n > MORNINGS || !isPart(part)) {
            return NO;
        }
        trial.takes(now);
        trial.go(n);
        return fraction(trial.together(trial.owed), trial.sleepers, part);
    }

    // ---- plans, books

    public int plan(int what, int sleeper) {
        if (what == -1) {
            return now.plan.clears();
        }
        if (what < 0 || what > 3 || what != 0 && !now.has(sleeper)) {
            return NONE;
        }
        return now.plan.adds(what, sleeper, 0);
    }

    public int ends(int what) {
        if (what != 0 && what != 1) {
            return NONE;
        }
        trial.takes(now);
        for (int r = 0; r < now.plan.rows; r++) {
            goesByPlan(now.plan.first[r], now.plan.second[r]);
        }
        return what == 0 ? trial.deep : trial.together(trial.lived);
    }

    public int book(int sleeper, int owed) {
        if (sleeper == -1) {
            return now.book.clears();
        }
        if (!now.has(sleeper)) {
            return NONE;
        }
        if (!isAmount(owed)) {
            return BAD;
        }
        return now.book.adds(sleeper, owed, 0);
    }

    public int looked() {
        for (int r = 0; r < now.book.rows; r++) {
            if (now.owed[now.book.first[r]] != now.book.second[r]) {
                return r;
            }
        }
        return NOT_SO;
    }

    // ---- judging, the image, acts, tapes

    public int judge(int tape, int i) {
        if (!isWithin(tape, TAPES)) {
            return NONE;
        }
        if (sorts[tape] != EMPTY && sorts[tape] != INTS) {
            return CAST;
        }
        for (int p = 0; p < now.sleepers; p++) {
            // a TAPE that holds nothing has size 0; i is looked at first, so that the sum can't wrap
            if (i < 0 || i >= sizes[tape] || i + p >= sizes[tape]) {
                return ENDED + p;
            }
            if (items[tape][i + p] != now.owed[p]) {
                return p;
            }
        }
        return NOT_SO;
    }

    public int image() {
        imaged.takesAll(now);
        imageTaken = true;
        return now.sleepers;
    }

    public int undo() {
        if (!imageTaken) {
            return STATE;
        }
        now.takesAll(imaged);
        return now.sleepers;
    }

    public int act(int sleeper, int act, int x) {
        ran.bodies = 0;
        if (!now.has(sleeper)) {
            return 0;
        }
        Sleeper who = now.kinds[now.kind[sleeper]];
        switch (act) {
            case 0:
                return who.rolls(now, sleeper, x);
            case 1:
                return who.yawns(now, sleeper, x);
            case 2:
                return who.tells(now, sleeper, x);
            default:
                return 0;
        }
    }

    public int trace(int i) {
        return i >= 0 && i < ran.kept() ? ran.numbers[i] : NONE;
    }

    public int taken(int sleeper, int k) {
        if (!isWithin(k, KINDS)) {
            return BAD;
        }
        if (!now.has(sleeper)) {
            return NOTHING;
        }
        int kind = now.kind[sleeper];
        return isOfKind(now.kinds[kind], k) ? kind : CAST;
    }

    public int count(int what) {
        switch (what) {
            case 0:
                return now.sleepers;
            case 1:
                return streetCount;
            case 2:
                return now.seen.rows;
            case 3:
                return now.plan.rows;
            case 4:
                return now.book.rows;
            case 5:
                return textLength;
            case 6:
                return ran.bodies;
            default:
                return BAD;
        }
    }

    public int tape(int tape, int sort, int n) {
        if (!isWithin(tape, TAPES)) {
            return NONE;
        }
        if (sort != EMPTY && (!isWithin(sort, SORTS) || n > ITEMS)) {
            return BAD;
        }
        if (sort != EMPTY && n < 0) {
            return SIZE;
        }
        sorts[tape] = sort;
        sizes[tape] = sort == EMPTY ? 0 : n;
        Arrays.fill(items[tape], 0L);
        return 1;
    }

    public int item(int tape, int i, long v) {
        if (!isWithin(tape, TAPES)) {
            return NONE;
        }
        if (sorts[tape] == EMPTY) {
            return NOTHING;
        }
        if (!isWithin(i, sizes[tape])) {
            return PLACE;
        }
        items[tape][i] = lowestBits(sorts[tape], v);
        return 1;
    }

    public long read(int tape, int i) {
        // a TAPE that holds nothing has size 0, and so no place
        if (!isWithin(tape, TAPES) || !isWithin(i, sizes[tape])) {
            return NO;
        }
        return items[tape][i];
    }

    public int shift(int tape, int i, int other, int j, int n) {
        if (!isWithin(tape, TAPES) || !isWithin(other, TAPES)) {
            return NONE;
        }
        if (sorts[tape] == EMPTY || sorts[other] == EMPTY) {
            return NOTHING;
        }
        if (sorts[tape] != sorts[other]) {
            return CAST;
        }
        if (n < 0 || !hasPlaces(sizes[tape], i, n) || !hasPlaces(sizes[other], j, n)) {
            return PLACE;
        }
        System.arraycopy(items[tape], i, items[other], j, n);
        return n;
    }

    // ---- what the calls above share

    private static boolean isWithin(int n, int end) {
        return n >= 0 && n < end;
    }

    private static boolean isAmount(int n) {
        return n >= 0 && n <= MOST;
    }

    private static boolean isPart(int part) {
        return part == 0 || part == 1;
    }

    private static boolean hasPlaces(int size, int from, int n) {
        // by difference: from + n could wrap
        return from >= 0 && from <= size && n <= size - from;
    }

    private static long lowestBits(int sort, long v) {
        switch (sort) {
            case 0:
                return (byte) v;
            case 1:
                return (short) v;
            case INTS:
                return (int) v;
            case 4:
                return v != 0 ? 1 : 0;
            default:
                return v;
        }
    }

    /** A part of above / below in lowest terms; NO without anything below. */
    private static long fraction(int above, int below, int part) {
        if (below < 1) {
            return NO;
        }
        int by = below;
        // below is 6 at most, and 1 divides all
        while (by > 1 && (above % by != 0 || below % by != 0)) {
            by--;
        }
        return part == 0 ? above / by : below / by;
    }

    private static boolean isOfKind(Sleeper who, int k) {
        switch (k) {
            case 1:
                return who instanceof Lodger;
            case 2:
                return who instanceof Clerk;
            case 3:
                return who instanceof Boy;
            case 4:
                return who instanceof Lord;
            case 5:
                return who instanceof Nurse;
            case 6:
                return who instanceof Told;
            default:
                return true;
        }
    }

    /** How many numbers fit SEEN, were one of them OWED (or v) of p now; or the least of them. */
    private int fitting(int p, boolean asOwed, boolean least) {
        int fit = 0;
        for (int x = 0; x < (asOwed ? OWES : NUMBERS); x++) {
            trial.takes(now);
            if (asOwed) {
                trial.owed[p] = x;
            } else {
                trial.v[p] = x;
            }
            if (trialIsAsSeen()) {
                if (least) {
                    return x;
                }
                fit++;
            }
        }
        return least ? NOT_SO : fit;
    }

    private boolean trialIsAsSeen() {
        for (int gone = 0; gone <= SEEN; gone++) {
            boolean later = false;
            for (int r = 0; r < now.seen.rows; r++) {
                int when = now.seen.second[r];
                if (when == gone && trial.owed[now.seen.first[r]] != now.seen.third[r]) {
                    return false;
                }
                later |= when > gone;
            }
            if (!later) {
                return true;
            }
            trial.go(1);
        }
        return true;
    }

    /** DEEP behind n MORNINGS, if those in the bits are AWAY from now on, too. */
    private int deepWithout(int bits, int n) {
        trial.takes(now);
        trial.awayBits |= bits;
        trial.go(n);
        return trial.deep;
    }

    private int sentBy(int n) {
        int sent = NOT_SO;
        int least = deepWithout(0, n);
        for (int p = 0; p < now.sleepers; p++) {
            int deep = now.isAway(p) ? least : deepWithout(1 << p, n);
            if (deep < least) {
                least = deep;
                sent = p;
            }
        }
        return sent;
    }

    private int stopBy(int n) {
        int stop = NOT_SO;
        int fewest = SLEEPERS + 1;
        for (int bits = 0; bits < 1 << now.sleepers; bits++) {
            int many = Integer.bitCount(bits);
            if ((bits & now.awayBits) == 0 && many < fewest && deepWithout(bits, n) <= now.deep) {
                stop = bits;
                fewest = many;
            }
        }
        return stop;
    }

    private void goesByPlan(int what, int sleeper) {
        if (what == 0) {
            trial.go(1);
        } else if (what == 3) {
            trial.owed[sleeper] = 0;
        } else {
            trial.puts(sleeper, what == 1);
        }
    }

    // ---- how all is

    /** All that THE IMAGE holds, and how MORNINGS go. */
    private static final class Doors {
        static final int MOST_DONE = 30, MOST_SNOOZED = 60, BEAR = 40, NO_STREET = -1;

        final Sleeper[] kinds;
        final Street[] streets;
        int sleepers;
        final int[] kind = new int[SLEEPERS];
        final int[] v = new int[SLEEPERS];
        final int[] owed = new int[SLEEPERS];
        final int[] lived = new int[SLEEPERS];
        int awayBits;
        final int[] rows = new int[SLEEPERS * PARTS];
        int deep;
        int morning;
        int held = NO_STREET;
        final Slips seen = new Slips(5);
        final Slips plan = new Slips(10);
        final Slips book = new Slips(8);

        Doors(Sleeper[] kinds, Street[] streets) {
            this.kinds = kinds;
            this.streets = streets;
        }

        boolean has(int p) {
            return p >= 0 && p < sleepers;
        }

        boolean isAway(int p) {
            return (awayBits >> p & 1) == 1;
        }

        void puts(int p, boolean isAway) {
            awayBits = isAway ? awayBits | 1 << p : awayBits & ~(1 << p);
        }

        /** Lets one in; behind the last door all is still 0, since an undo() puts that back, too. */
        int lets(int itsKind, int itsV) {
            int p = sleepers;
            kind[p] = itsKind;
            v[p] = itsV;
            sleepers++;
            return p;
        }

        /** Becomes as another, but for what is told by hand, which no trial reads here. */
        void takes(Doors other) {
            sleepers = other.sleepers;
            System.arraycopy(other.kind, 0, kind, 0, SLEEPERS);
            System.arraycopy(other.v, 0, v, 0, SLEEPERS);
            System.arraycopy(other.owed, 0, owed, 0, SLEEPERS);
            System.arraycopy(other.lived, 0, lived, 0, SLEEPERS);
            awayBits = other.awayBits;
            System.arraycopy(other.rows, 0, rows, 0, SLEEPERS * PARTS);
            deep = other.deep;
            morning = other.morning;
            held = other.held;
        }

        void takesAll(Doors other) {
            takes(other);
            seen.takes(other.seen);
            plan.takes(other.plan);
            book.takes(other.book);
        }

        int bear() {
            return held == NO_STREET ? BEAR : streets[held].bear;
        }

        int urgeOf(int p) {
            int sum = held == NO_STREET ? Street.SUM : streets[held].sumOf(this, p);
            return kinds[kind[p]].urge(this, p, sum);
        }

        /** The first one behind p who is not AWAY; NOT_SO: there is only DEEP. */
        int nextOf(int p) {
            for (int q = p + 1; q < sleepers; q++) {
                if (!isAway(q)) {
                    return q;
                }
            }
            return NOT_SO;
        }

        void comesFrom(int p, int much) {
            int next = nextOf(p);
            if (next == NOT_SO) {
                deep = Math.min(MOST, deep + much);
            } else {
                owed[next] = Math.min(MOST, owed[next] + much);
            }
        }

        void go(int n) {
            for (int gone = 0; gone < n; gone++) {
                for (int p = 0; p < sleepers; p++) {
                    if (!isAway(p)) {
                        wakes(p);
                    }
                }
                morning++;
            }
        }

        private void wakes(int p) {
            comesFrom(p, Math.max(0, Math.min(MOST_SNOOZED, urgeOf(p))));
            int done = Math.min(MOST_DONE, owed[p]);
            owed[p] -= done;
            lived[p] = Math.min(MOST, lived[p] + done);
            int bears = bear();
            if (owed[p] > bears) {
                comesFrom(p, owed[p] - bears);
                owed[p] = bears;
            }
        }

        int together(int[] numbers) {
            int sum = 0;
            for (int p = 0; p < sleepers; p++) {
                sum += numbers[p];
            }
            return sum;
        }
    }

    /** Rows told by hand: SEEN, the PLAN, the BOOK; each row is up to three numbers. */
    private static final class Slips {
        final int most;
        int rows;
        final int[] first;
        final int[] second;
        final int[] third;

        Slips(int most) {
            this.most = most;
            first = new int[most];
            second = new int[most];
            third = new int[most];
        }

        int clears() {
            rows = 0;
            return 0;
        }

        int adds(int a, int b, int c) {
            if (rows == most) {
                return FULL;
            }
            first[rows] = a;
            second[rows] = b;
            third[rows] = c;
            rows++;
            return rows;
        }

        void takes(Slips other) {
            rows = other.rows;
            System.arraycopy(other.first, 0, first, 0, rows);
            System.arraycopy(other.second, 0, second, 0, rows);
            System.arraycopy(other.third, 0, third, 0, rows);
        }
    }

    // ---- streets

    /**
     * A STREET as read: its CLAUSES, and each E as code in postfix order.
     * The reading methods answer whether they found what they name; if not, at is the FAULT.
     */
    private static final class Street {
        static final int WELL = -1, SUM = 9;
        static final int CLAUSES = 10, WITHIN = 4, DIGITS = 2, NO_NUMBER = -1;
        static final int LATE = 0, BEARS = 2;
        static final int AND = -1, OR = -2, NOT = -3, NUMBERED = 100, COMPARED = 3;

        final int[] words = new int[CLAUSES];
        final int[] numbers = new int[CLAUSES];
        final int[] ends = new int[CLAUSES];
        int clauses;
        final int[] codes = new int[SIGNS];
        int codeCount;
        int bear;
        /** What the letters p k v o l m of a TEST stand for, of the one looked at. */
        final int[] looks = new int[6];
        final byte[] text;
        int length;
        int at;

        Street(byte[] text) {
            this.text = text;
        }

        int faultOf(int signs) {
            length = signs;
            at = 0;
            clauses = 0;
            codeCount = 0;
            bear = Doors.BEAR;
            for (int c = 0; c < CLAUSES; c++) {
                if (!findsClause()) {
                    return at;
                }
                if (at == length) {
                    return WELL;
                }
                if (c == CLAUSES - 1 || text[at] != ';') {
                    return at;
                }
                at++;
            }
            return at;
        }

        private boolean findsClause() {
            int word = at < length ? "lsb".indexOf((char) text[at]) : -1;
            if (word < 0 || !findsSigns(word == LATE ? "late " : word == BEARS ? "bear " : "soon ")) {
                return false;
            }
            int n = number();
            if (n == NO_NUMBER) {
                return false;
            }
            if (word == BEARS) {
                bear = n;
            } else if (!findsSigns(" ") || !findsEither(0)) {
                return false;
            }
            words[clauses] = word;
            numbers[clauses] = n;
            ends[clauses] = codeCount;
            clauses++;
            return true;
        }

        private boolean findsSigns(String signs) {
            for (int s = 0; s < signs.length(); s++) {
                if (at >= length || text[at] != signs.charAt(s)) {
                    return false;
                }
                at++;
            }
            return true;
        }

        private int number() {
            int n = NO_NUMBER;
            for (int d = 0; d < DIGITS && at < length && text[at] >= '0' && text[at] <= '9'; d++) {
                n = (n == NO_NUMBER ? 0 : n * 10) + text[at] - '0';
                at++;
            }
            return n;
        }

        /** E: its T's with | between, taken from the left, which answers the same. */
        private boolean findsEither(int within) {
            if (!findsBoth(within)) {
                return false;
            }
            for (int more = 0; more < SIGNS && at < length && text[at] == '|'; more++) {
                at++;
                if (!findsBoth(within)) {
                    return false;
                }
                writes(OR);
            }
            return true;
        }

        /** T: its F's with & between. */
        private boolean findsBoth(int within) {
            if (!findsPart(within)) {
                return false;
            }
            for (int more = 0; more < SIGNS && at < length && text[at] == '&'; more++) {
                at++;
                if (!findsPart(within)) {
                    return false;
                }
                writes(AND);
            }
            return true;
        }

        /** F, within so many ( and !. */
        private boolean findsPart(int within) {
            boolean opens = at < length && text[at] == '(';
            boolean denies = at < length && text[at] == '!';
            if (!opens && !denies) {
                return findsTest();
            }
            if (within >= WITHIN) {
                return false;
            }
            at++;
            if (opens) {
                return findsEither(within + 1) && findsSigns(")");
            }
            if (!findsPart(within + 1)) {
                return false;
            }
            writes(NOT);
            return true;
        }

        private boolean findsTest() {
            int letter = at < length ? "pkvolm".indexOf((char) text[at]) : -1;
            if (letter < 0) {
                return false;
            }
            at++;
            int sign = at < length ? "<=>".indexOf((char) text[at]) : -1;
            if (sign < 0) {
                return false;
            }
            at++;
            int n = number();
            if (n == NO_NUMBER) {
                return false;
            }
            writes((letter * COMPARED + sign) * NUMBERED + n);
            return true;
        }

        private void writes(int code) {
            // each code is of a sign of its own in THE TEXT: there are never more
            if (codeCount < SIGNS) {
                codes[codeCount] = code;
                codeCount++;
            }
        }

        int sumOf(Doors doors, int p) {
            looks[0] = p;
            looks[1] = doors.kind[p];
            looks[2] = doors.v[p];
            looks[3] = doors.owed[p] / 10;
            looks[4] = doors.lived[p] / 10;
            looks[5] = doors.morning % 10;
            int sum = SUM;
            int from = 0;
            for (int c = 0; c < clauses; c++) {
                if (words[c] != BEARS && holds(from, ends[c])) {
                    sum += words[c] == LATE ? numbers[c] : -numbers[c];
                }
                from = ends[c];
            }
            return sum;
        }

        /** The codes' answers are bits, the latest lowest: 4 within one another leave far fewer than 32. */
        private boolean holds(int from, int to) {
            int bits = 0;
            for (int c = from; c < to; c++) {
                int code = codes[c];
                int latest = bits & 1;
                if (code == NOT) {
                    bits ^= 1;
                } else if (code == AND) {
                    bits = bits >> 1 & (latest == 1 ? -1 : -2);
                } else if (code == OR) {
                    bits = bits >> 1 | latest;
                } else {
                    int look = looks[code / (COMPARED * NUMBERED)];
                    int n = code % NUMBERED;
                    int sign = look < n ? 0 : look == n ? 1 : 2;
                    bits = bits << 1 | (sign == code / NUMBERED % COMPARED ? 1 : 0);
                }
            }
            return (bits & 1) == 1;
        }
    }

    // ---- kinds

    /** The numbers of the bodies that ran in the latest act(). */
    private static final class Trace {
        static final int KEPT = 20;

        final int[] numbers = new int[KEPT];
        int bodies;

        void began(int number) {
            if (bodies < KEPT) {
                numbers[bodies] = number;
            }
            bodies++;
        }

        int kept() {
            return Math.min(bodies, KEPT);
        }
    }

    /** KIND 0. One object stands for all SLEEPERS of its KIND: what is theirs stands in Doors, at p. */
    private static class Sleeper {
        final Trace ran;

        Sleeper(Trace ran) {
            this.ran = ran;
        }

        int urge(Doors doors, int p, int sum) {
            return sum;
        }

        int rolls(Doors doors, int p, int x) {
            ran.began(10);
            return x + p;
        }

        int yawns(Doors doors, int p, int x) {
            ran.began(11);
            return rolls(doors, p, x) - doors.v[p];
        }

        int tells(Doors doors, int p, int x) {
            ran.began(12);
            return yawns(doors, p, x) * 2;
        }
    }

    private static class Lodger extends Sleeper {
        Lodger(Trace ran) {
            super(ran);
        }

        int urge(Doors doors, int p, int sum) {
            return sum + doors.v[p];
        }

        int yawns(Doors doors, int p, int x) {
            ran.began(20);
            return super.yawns(doors, p, x) ^ 6;
        }
    }

    private static class Clerk extends Sleeper {
        Clerk(Trace ran) {
            super(ran);
        }

        int urge(Doors doors, int p, int sum) {
            return sum / 2;
        }

        int rolls(Doors doors, int p, int x) {
            ran.began(30);
            return super.rolls(doors, p, x * 3);
        }
    }

    private static class Boy extends Sleeper {
        static final int MOST_LESS = 9;

        Boy(Trace ran) {
            super(ran);
        }

        int urge(Doors doors, int p, int sum) {
            int less = doors.lived[p] / 10;
            return sum - (less < MOST_LESS ? less : MOST_LESS);
        }

        int tells(Doors doors, int p, int x) {
            ran.began(40);
            return super.tells(doors, p, x) + yawns(doors, p, 1);
        }
    }

    private static final class Lord extends Lodger {
        Lord(Trace ran) {
            super(ran);
        }

        int urge(Doors doors, int p, int sum) {
            int urge = super.urge(doors, p, sum);
            return doors.owed[p] == 0 ? urge * 2 : urge;
        }

        int rolls(Doors doors, int p, int x) {
            ran.began(50);
            return -super.rolls(doors, p, x);
        }

        int yawns(Doors doors, int p, int x) {
            ran.began(51);
            return super.yawns(doors, p, x + 1);
        }
    }

    private static final class Nurse extends Clerk {
        Nurse(Trace ran) {
            super(ran);
        }

        int urge(Doors doors, int p, int sum) {
            return doors.morning % 7 == 6 ? 0 : super.urge(doors, p, sum);
        }

        int tells(Doors doors, int p, int x) {
            ran.began(60);
            return super.tells(doors, p, x - p);
        }
    }

    private static final class Told extends Boy {
        Told(Trace ran) {
            super(ran);
        }

        int urge(Doors doors, int p, int sum) {
            return super.urge(doors, p, sum) + doors.rows[p * PARTS + doors.morning % PARTS];
        }

        int yawns(Doors doors, int p, int x) {
            ran.began(70);
            return super.yawns(doors, p, x) + super.rolls(doors, p, 2);
        }

        int rolls(Doors doors, int p, int x) {
            ran.began(71);
            return super.rolls(doors, p, x) ^ doors.v[p];
        }
    }
}
