/**
 * A street of two sides with people at its windows, who lean out more day by day and are kept past a
 * certain point. What each call answers stands in ../shared/DOC.md, whose words the names here follow.
 */
public final class LeanedOut {
    public static final int NONE = -1, BAD = -2, STATE = -3, FULL = -4;
    public static final long NO = -4611686018427387904L;

    // The refusals that the document tells by their numbers.
    private static final int NO_ONE = -5, NOT_SO = -7;
    private static final int MISSING = -11, OUTSIDE = -12, UNLIKE = -13, BELOW_NONE = -14;
    private static final int ASKS_NO_ONE = -1000, TOLD_NO_ONE = -5000, TOLD_NOT_SO = -7000;
    private static final int RUN_NOT_SO = -100000, FAULT_AT = -100;

    private static final int MOST_PEOPLE = 6, PLACES = 10, WINDOWS = 20, MOST_LEAN = 99;
    private static final int KINDS = 6, MORES = 10, LAST_DAY = 999;
    private static final int MOST_TEXTS = 6, PARTS = 3, NAMES = 6, TAPE_SIZE = 160, BYTES = 256;
    private static final int LEANS = 0, HOLDS = 1, MINDS = 2;
    private static final int RUN_DAYS = 40, KEEP_DAYS = 60, TOLD_DAYS = 20, CRANE_DAYS = 8;
    private static final int SHEETS = 4, SHEET_SIZE = 40, NO_SORT = -1, BYTE = 0, SHORT = 1, INT = 2;
    private static final int MOST_SEED = 99999, MOST_SEEDS = 40, MOST_ORDERS = 720;
    private static final long LOT_FACTOR = 48271L, LOT_MODULUS = 2147483647L;
    private static final String FIRST_LAW = "leans 5 - across ; holds 60 ; minds beside ;";

    private final Text[] texts = new Text[MOST_TEXTS];
    private final Sheet[] sheets = new Sheet[SHEETS];
    private final Street now, thought, kept;
    private final Reader reader = new Reader();
    private final int[] tape = new int[TAPE_SIZE];
    private final int[] members = new int[MOST_PEOPLE];
    private final int[] order = new int[MOST_PEOPLE];
    private int textCount, tapeSize;
    private boolean imageKept;

    public LeanedOut() {
        for (int t = 0; t < MOST_TEXTS; t++) {
            texts[t] = new Text();
        }
        for (int s = 0; s < SHEETS; s++) {
            sheets[s] = new Sheet();
        }
        Person[] all = {new Person(), new Lover(), new Tenant(), new Child(), new Duster(), new Plaster()};
        now = new Street(all, texts);
        thought = new Street(all, texts);
        kept = new Street(all, texts);
        for (int i = 0; i < FIRST_LAW.length() && i < TAPE_SIZE; i++) {
            tape[i] = FIRST_LAW.charAt(i);
        }
        reader.readAll(tape, FIRST_LAW.length(), texts[0]);
        textCount = 1;
    }

    // ---- people, the law

    public int count(int what) {
        switch (what) {
            case 0: return now.people;
            case 1: return Integer.bitCount(now.keptBits());
            case 2: return now.day;
            case 3: return textCount;
            case 4: return now.law;
            case 5: return tapeSize;
            default: return BAD;
        }
    }

    public int dawn(int v) {
        if (v < 0 || v > LAST_DAY) return BAD;
        int was = now.day;
        now.day = v;
        return was;
    }

    public int feed(int n, int a, int b, int c, int d, int e) {
        if (n < 1 || n > 5) return BAD;
        if (!isByte(a) || !isByte(b) || !isByte(c) || !isByte(d) || !isByte(e)) return BAD;
        if (tapeSize + n > TAPE_SIZE) return FULL;
        feedOne(a);
        if (n > 1) feedOne(b);
        if (n > 2) feedOne(c);
        if (n > 3) feedOne(d);
        if (n > 4) feedOne(e);
        return tapeSize;
    }

    public int text() {
        if (textCount >= MOST_TEXTS) return FULL;
        int fault = reader.readAll(tape, tapeSize, texts[textCount]);
        tapeSize = 0;
        if (fault >= 0) return FAULT_AT - fault;
        textCount++;
        return textCount - 1;
    }

    public int force(int t) {
        if (t < 0 || t >= textCount) return BAD;
        int was = now.law;
        now.law = t;
        return was;
    }

    public int asks(int part, int p) {
        if (part < 0 || part >= PARTS || !now.has(p)) return ASKS_NO_ONE;
        return now.says(part, p);
    }

    public int person(int kindMore, int windows) {
        return comes(kindMore, windows);
    }

    public int put(int p, int what, int v) {
        if (!now.has(p)) return NO_ONE;
        int was;
        switch (what) {
            case 0:
                if (!now.mayBeAt(p, v)) return NOT_SO;
                was = now.window[p];
                now.window[p] = v;
                return was;
            case 1:
                return looksAt(p, v);
            case 2:
                if (v < 0 || v > MOST_LEAN) return NOT_SO;
                was = now.lean[p];
                now.lean[p] = v;
                return was;
            default:
                return NOT_SO;
        }
    }

    public int told(int p, int what) {
        if (!now.has(p)) return TOLD_NO_ONE;
        switch (what) {
            case 0: return now.window[p];
            case 1: return now.look[p];
            case 2: return now.lean[p];
            case 3: return now.kind[p];
            case 4: return now.more[p];
            case 5: return now.isKept[p] ? 1 : 0;
            case 6: return now.whoIsAt(now.look[p]);
            case 7: return now.leaning(p);
            case 8: return now.holding(p);
            case 9: return now.minding(p);
            default: return TOLD_NOT_SO;
        }
    }

    // ---- looks

    public int street(int what) {
        switch (what) {
            case 0: return now.meetings();
            case 1: return now.crossings();
            case 2: return now.mostLookedAt();
            case 3: return now.lookers(now.mostLookedAt());
            case 4: return now.unseen();
            default: return BAD;
        }
    }

    public int chain(int p) {
        if (!now.has(p)) return NO_ONE;
        int bits = 0;
        int one = p;
        for (int i = 0; i < MOST_PEOPLE && now.has(one); i++) {
            bits |= 1 << one;
            one = now.whoIsAt(now.look[one]);
        }
        return bits;
    }

    // ---- days

    public int day() {
        if (now.day >= LAST_DAY) return STATE;
        return now.passDay();
    }

    public int callIn(int p) {
        if (!now.has(p)) return NO_ONE;
        if (now.isKept[p]) return STATE;
        int was = now.lean[p];
        now.lean[p] = 0;
        return was;
    }

    public int crane(int p, int w) {
        if (!now.has(p)) return NO_ONE;
        return looksAt(p, w);
    }

    public int run(int n, int what) {
        boolean ofAll = what >= 0 && what <= 2;
        int p = ofAll ? 0 : what - 10;
        if (n < 0 || n > RUN_DAYS || !ofAll && (what < 10 || !now.has(p))) return RUN_NOT_SO;
        thought.become(now);
        for (int i = 0; i < n; i++) {
            thought.passDay();
        }
        switch (what) {
            case 0: return thought.keptBits();
            case 1: return thought.mindingOfTheRest();
            case 2: return thought.leanOfAll();
            default: return thought.lean[p];
        }
    }

    public int keeps(int p) {
        if (!now.has(p)) return NO_ONE;
        thought.become(now);
        int days = daysTillKept(p);
        return days > KEEP_DAYS ? NONE : days;
    }

    // ---- what is best

    public int turn(int what) {
        if (what < 0 || what > 1) return BAD;
        int best = now.meetings();
        int whom = NONE;
        for (int p = 0; p < now.people; p++) {
            thought.become(now);
            for (int w = 0; w < WINDOWS; w++) {
                if (!now.mayLookAt(p, w)) continue;
                thought.look[p] = w;
                int meetings = thought.meetings();
                if (meetings > best) {
                    best = meetings;
                    whom = 100 * p + w;
                }
            }
        }
        return what == 0 ? whom : best;
    }

    public int safe(int p, int what) {
        if (!now.has(p)) return NO_ONE;
        if (what < 0 || what > 1) return NOT_SO;
        int most = -1;
        int where = NONE;
        for (int w = 0; w < WINDOWS; w++) {
            if (!now.mayBeAt(p, w)) continue;
            thought.become(now);
            thought.window[p] = w;
            int days = daysTillKept(p);
            if (days > most) {
                most = days;
                where = w;
            }
        }
        return what == 0 ? where : most;
    }

    public int warn(int n, int what) {
        if (n < 0 || n > RUN_DAYS || what < 0 || what > 1) return BAD;
        thought.become(now);
        int fewest = keptBehind(n);
        int whom = NONE;
        for (int p = 0; p < now.people; p++) {
            if (now.isKept[p]) continue;
            thought.become(now);
            thought.lean[p] = 0;
            int many = keptBehind(n);
            if (many < fewest) {
                fewest = many;
                whom = p;
            }
        }
        return what == 0 ? whom : fewest;
    }

    public int untangle(int side, int what) {
        if (side < 0 || side > 1 || what < 0 || what > 1) return BAD;
        int size = gatherMembers(side);
        thought.become(now);
        int fewest = now.crossings();
        int digits = orderDigits(size);
        for (int i = 1; i < MOST_ORDERS && nextOrder(size); i++) {
            giveLooks(size);
            int crossings = thought.crossings();
            if (crossings < fewest) {
                fewest = crossings;
                digits = orderDigits(size);
            }
        }
        return what == 0 ? digits : fewest;
    }

    public long strain(int p, int part) {
        if (!now.has(p) || part < 0 || part > 1) return NO;
        int holds = now.holding(p);
        if (holds <= 0) return NO;
        return lowest(now.lean[p], holds, part);
    }

    // ---- told days

    public int judge(int s, int p) {
        int refusal = refusalOf(s, p);
        if (refusal != 0) return refusal;
        thought.become(now);
        return firstOtherwise(sheets[s], p);
    }

    public int kinds(int s, int p, int sort) {
        int refusal = refusalOf(s, p);
        if (refusal != 0) return refusal;
        if (sort < 0 || sort > 1) return NOT_SO;
        int bits = 0;
        for (int v = 0; v < (sort == 0 ? KINDS : MORES); v++) {
            thought.become(now);
            if (sort == 0) {
                thought.kind[p] = v;
            } else {
                thought.more[p] = v;
            }
            if (firstOtherwise(sheets[s], p) == NONE) bits |= 1 << v;
        }
        return bits;
    }

    public int windows(int s, int p, int sort) {
        int refusal = refusalOf(s, p);
        if (refusal != 0) return refusal;
        if (sort < 0 || sort > 1) return NOT_SO;
        int bits = 0;
        for (int w = 0; w < WINDOWS; w++) {
            if (!(sort == 0 ? now.mayBeAt(p, w) : now.mayLookAt(p, w))) continue;
            thought.become(now);
            if (sort == 0) {
                thought.window[p] = w;
            } else {
                thought.look[p] = w;
            }
            if (firstOtherwise(sheets[s], p) == NONE) bits |= 1 << w;
        }
        return bits;
    }

    public int leans(int s, int p, int what) {
        int refusal = refusalOf(s, p);
        if (refusal != 0) return refusal;
        if (what < 0 || what > 1) return NOT_SO;
        int many = 0;
        int least = NONE;
        for (int lean = 0; lean <= MOST_LEAN; lean++) {
            thought.become(now);
            thought.lean[p] = lean;
            if (firstOtherwise(sheets[s], p) != NONE) continue;
            many++;
            if (least == NONE) least = lean;
        }
        return what == 0 ? many : least;
    }

    public int whose(int s) {
        int refusal = refusalOfSheet(s);
        if (refusal != 0) return refusal;
        int bits = 0;
        for (int p = 0; p < now.people; p++) {
            thought.become(now);
            if (firstOtherwise(sheets[s], p) == NONE) bits |= 1 << p;
        }
        return bits;
    }

    public int laws(int s, int p) {
        int refusal = refusalOf(s, p);
        if (refusal != 0) return refusal;
        int bits = 0;
        for (int t = 0; t < textCount; t++) {
            thought.become(now);
            thought.law = t;
            if (firstOtherwise(sheets[s], p) == NONE) bits |= 1 << t;
        }
        return bits;
    }

    public int film(int s, int p, int n) {
        if (!isSheet(s)) return BAD;
        if (!now.has(p)) return NO_ONE;
        if (n < 0 || n > TOLD_DAYS) return NOT_SO;
        sheets[s].become(BYTE, n);
        thought.become(now);
        for (int i = 0; i < n; i++) {
            thought.passDay();
            sheets[s].set(i, thought.lean[p]);
        }
        return n;
    }

    // ---- cranes by lots

    public int drawn(int seed, int what) {
        if (seed < 0 || seed > MOST_SEED || what < 0 || what > 1) return BAD;
        passCraneDays(seed);
        return what == 0 ? thought.keptBits() : thought.meetings();
    }

    public long odds(int seed, int seeds, int p, int part) {
        if (seed < 0 || seed > MOST_SEED || seeds < 1 || seeds > MOST_SEEDS) return NO;
        if (!now.has(p) || part < 0 || part > 1) return NO;
        int many = 0;
        for (int i = 0; i < seeds; i++) {
            passCraneDays(seed + i);
            if (thought.isKept[p]) many++;
        }
        return lowest(many, seeds, part);
    }

    public int image() {
        kept.become(now);
        imageKept = true;
        return now.people;
    }

    public int back() {
        if (!imageKept) return STATE;
        // KIND and MORE come along: nothing changes them, so those in the image are still theirs.
        now.become(kept);
        return now.people;
    }

    // ---- the host

    public int sheet(int s, int sort, int n) {
        if (!isSheet(s) || sort < NO_SORT || sort > INT) return BAD;
        if (sort == NO_SORT) {
            sheets[s].become(NO_SORT, 0);
            return 1;
        }
        if (n > SHEET_SIZE) return BAD;
        if (n < 0) return BELOW_NONE;
        sheets[s].become(sort, n);
        return 1;
    }

    public int cell(int s, int i, int v) {
        if (!isSheet(s)) return BAD;
        if (sheets[s].isMissing()) return MISSING;
        if (!sheets[s].has(i)) return OUTSIDE;
        sheets[s].set(i, v);
        return 1;
    }

    public int copy(int s, int i, int other, int j, int n) {
        if (!isSheet(s) || !isSheet(other)) return BAD;
        Sheet from = sheets[s];
        Sheet to = sheets[other];
        if (from.isMissing() || to.isMissing()) return MISSING;
        if (from.sort != to.sort) return UNLIKE;
        if (!from.hasRow(i, n) || !to.hasRow(j, n)) return OUTSIDE;
        System.arraycopy(from.cells, i, to.cells, j, n);
        return n;
    }

    public int peopleBy(int s, int sort, int from, int n) {
        if (!isSheet(s) || sort < BYTE || sort > INT || n < 0 || n > MOST_PEOPLE) return BAD;
        Sheet row = sheets[s];
        if (row.isMissing()) return MISSING;
        if (row.sort != sort) return UNLIKE;
        int came = 0;
        int at = from;
        for (int i = 0; i < n; i++) {
            if (!row.hasRow(at, 2)) return OUTSIDE;
            if (comes(row.get(at), row.get(at + 1)) >= 0) came++;
            at += 2;
        }
        return came;
    }

    public int taken(int i, int kind) {
        if (kind < 0 || kind > KINDS) return BAD;
        if (i < 0 || i >= 2 * MOST_PEOPLE) return OUTSIDE;
        int p = i % MOST_PEOPLE;
        if (!now.has(p)) return MISSING;
        boolean isPerson = i < MOST_PEOPLE;
        if (kind == KINDS) {
            if (isPerson) return UNLIKE;
            return now.isKept[p] ? 1 : 0;
        }
        return isPerson && isOfKind(now.kindOf(p), kind) ? p : UNLIKE;
    }

    // ---- what several calls need

    private static boolean isByte(int v) {
        return v >= 0 && v < BYTES;
    }

    private static boolean isSheet(int s) {
        return s >= 0 && s < SHEETS;
    }

    private void feedOne(int v) {
        if (tapeSize >= TAPE_SIZE) return;
        tape[tapeSize] = v;
        tapeSize++;
    }

    private int comes(int kindMore, int windows) {
        if (kindMore < 0 || kindMore >= 10 * KINDS || windows < 0 || windows >= 100 * WINDOWS) return BAD;
        int window = windows / 100;
        int look = windows % 100;
        if (!Street.areOpposite(window, look) || now.whoIsAt(window) != NONE) return BAD;
        if (now.people >= MOST_PEOPLE) return FULL;
        int p = now.people;
        now.window[p] = window;
        now.look[p] = look;
        now.lean[p] = 0;
        now.isKept[p] = false;
        now.kind[p] = kindMore / 10;
        now.more[p] = kindMore % 10;
        now.people = p + 1;
        return p;
    }

    private int looksAt(int p, int w) {
        if (!now.mayLookAt(p, w)) return NOT_SO;
        int was = now.look[p];
        now.look[p] = w;
        return was;
    }

    /** From the thought on: one more than are looked at, if one isn't kept by then. */
    private int daysTillKept(int p) {
        for (int days = 0; days <= KEEP_DAYS; days++) {
            if (thought.isKept[p]) return days;
            thought.passDay();
        }
        return KEEP_DAYS + 1;
    }

    /** From the thought on: how many are kept behind n days. */
    private int keptBehind(int n) {
        for (int i = 0; i < n; i++) {
            thought.passDay();
        }
        return Integer.bitCount(thought.keptBits());
    }

    private int refusalOfSheet(int s) {
        if (!isSheet(s)) return BAD;
        if (sheets[s].isMissing()) return MISSING;
        return sheets[s].size > TOLD_DAYS ? BAD : 0;
    }

    private int refusalOf(int s, int p) {
        int refusal = refusalOfSheet(s);
        if (refusal != 0) return refusal;
        return now.has(p) ? 0 : NO_ONE;
    }

    /** Spends the thought: who asks sets it up anew each time. */
    private int firstOtherwise(Sheet row, int p) {
        for (int i = 0; i < row.size; i++) {
            thought.passDay();
            if (thought.lean[p] != row.get(i)) return i;
        }
        return NONE;
    }

    private void passCraneDays(int seed) {
        thought.become(now);
        long lot = seed + 1L;
        for (int i = 0; i < CRANE_DAYS; i++) {
            lot = lot * LOT_FACTOR % LOT_MODULUS;
            int p = (int) (lot % MOST_PEOPLE);
            lot = lot * LOT_FACTOR % LOT_MODULUS;
            int place = (int) (lot % PLACES);
            if (thought.has(p)) {
                thought.look[p] = thought.window[p] < PLACES ? PLACES + place : place;
            }
            thought.passDay();
        }
    }

    private static long lowest(int above, int below, int part) {
        int divisor = above;
        int rest = below;
        // Euclid's steps on numbers of at most three digits are far fewer than these.
        for (int i = 0; i < 100 && rest != 0; i++) {
            int next = divisor % rest;
            divisor = rest;
            rest = next;
        }
        if (divisor == 0) return NO;
        return part == 0 ? above / divisor : below / divisor;
    }

    private int gatherMembers(int side) {
        int size = 0;
        for (int p = 0; p < now.people; p++) {
            if (now.window[p] / PLACES != side) continue;
            members[size] = p;
            order[size] = size;
            size++;
        }
        return size;
    }

    private int orderDigits(int size) {
        int digits = 0;
        for (int i = 0; i < size; i++) {
            digits = 10 * digits + order[i] + 1;
        }
        return digits;
    }

    private void giveLooks(int size) {
        for (int i = 0; i < size; i++) {
            thought.look[members[i]] = now.look[members[order[i]]];
        }
    }

    /** The next order by digits, so that the first of like ones is met first; false behind the last. */
    private boolean nextOrder(int size) {
        int low = size - 2;
        while (low >= 0 && order[low] > order[low + 1]) {
            low--;
        }
        if (low < 0) return false;
        int high = size - 1;
        while (high > low && order[high] < order[low]) {
            high--;
        }
        swapInOrder(low, high);
        for (int a = low + 1, b = size - 1; a < b; a++, b--) {
            swapInOrder(a, b);
        }
        return true;
    }

    private void swapInOrder(int a, int b) {
        int was = order[a];
        order[a] = order[b];
        order[b] = was;
    }

    private static boolean isOfKind(Person one, int kind) {
        switch (kind) {
            case 0: return one != null;
            case 1: return one instanceof Lover;
            case 2: return one instanceof Tenant;
            case 3: return one instanceof Child;
            case 4: return one instanceof Duster;
            case 5: return one instanceof Plaster;
            default: return false;
        }
    }

    // ---- the kinds: what the text says comes in, what holds of one of the kind comes out

    static class Person {
        int leaning(int says, boolean met, int day, int more) {
            return says;
        }

        int holding(int says, int more) {
            return says;
        }

        int minding(int says, int more) {
            return says;
        }
    }

    static class Lover extends Person {
        int leaning(int says, boolean met, int day, int more) {
            int asPerson = super.leaning(says, met, day, more);
            return met ? asPerson + more : asPerson;
        }

        int minding(int says, int more) {
            return 0;
        }
    }

    static class Tenant extends Person {
        int holding(int says, int more) {
            return super.holding(says, more) + 10;
        }

        int minding(int says, int more) {
            return 2 * super.minding(says, more) + more;
        }
    }

    static final class Child extends Lover {
        int leaning(int says, boolean met, int day, int more) {
            return 2 * super.leaning(says, met, day, more);
        }

        int holding(int says, int more) {
            return super.holding(says, more) / 2;
        }
    }

    static final class Duster extends Tenant {
        int leaning(int says, boolean met, int day, int more) {
            return day % 5 == 0 ? more : -super.leaning(says, met, day, more);
        }

        int minding(int says, int more) {
            return super.minding(says, more) / 3;
        }
    }

    static final class Plaster extends Person {
        int leaning(int says, boolean met, int day, int more) {
            return met ? -1 : 0;
        }

        int holding(int says, int more) {
            return more;
        }
    }

    /** The street as it is, in thought, or in the image: rows by the people's numbers. */
    static final class Street {
        final int[] window = new int[MOST_PEOPLE];
        final int[] look = new int[MOST_PEOPLE];
        final int[] lean = new int[MOST_PEOPLE];
        final int[] kind = new int[MOST_PEOPLE];
        final int[] more = new int[MOST_PEOPLE];
        final boolean[] isKept = new boolean[MOST_PEOPLE];
        int people, day, law;
        private final int[] named = new int[NAMES];
        private final Person[] allKinds;
        private final Text[] allTexts;

        Street(Person[] allKinds, Text[] allTexts) {
            this.allKinds = allKinds;
            this.allTexts = allTexts;
        }

        void become(Street other) {
            people = other.people;
            day = other.day;
            law = other.law;
            for (int p = 0; p < people; p++) {
                window[p] = other.window[p];
                look[p] = other.look[p];
                lean[p] = other.lean[p];
                kind[p] = other.kind[p];
                more[p] = other.more[p];
                isKept[p] = other.isKept[p];
            }
        }

        boolean has(int p) {
            return p >= 0 && p < people;
        }

        static boolean isWindow(int w) {
            return w >= 0 && w < WINDOWS;
        }

        static boolean areOpposite(int w, int v) {
            return isWindow(w) && isWindow(v) && w / PLACES != v / PLACES;
        }

        boolean mayLookAt(int p, int w) {
            return areOpposite(window[p], w);
        }

        boolean mayBeAt(int p, int w) {
            if (!isWindow(w) || w / PLACES != window[p] / PLACES) return false;
            int there = whoIsAt(w);
            return there == NONE || there == p;
        }

        int whoIsAt(int w) {
            for (int p = 0; p < people; p++) {
                if (window[p] == w) return p;
            }
            return NONE;
        }

        private boolean isMet(int p) {
            int there = whoIsAt(look[p]);
            return there != NONE && look[there] == window[p];
        }

        int lookers(int w) {
            int many = 0;
            for (int p = 0; p < people; p++) {
                if (look[p] == w) many++;
            }
            return many;
        }

        private int beside(int p) {
            int many = 0;
            for (int q = 0; q < people; q++) {
                if (!isKept[q] || window[q] / PLACES != window[p] / PLACES) continue;
                if (Math.abs(window[q] - window[p]) == 1) many++;
            }
            return many;
        }

        int meetings() {
            int many = 0;
            for (int p = 0; p < people; p++) {
                // Each two is seen from both its ends: it is told from the lesser number.
                if (isMet(p) && whoIsAt(look[p]) > p) many++;
            }
            return many;
        }

        int crossings() {
            int many = 0;
            for (int p = 0; p < people; p++) {
                for (int q = p + 1; q < people; q++) {
                    int here = Integer.compare(endOn(0, p), endOn(0, q));
                    int there = Integer.compare(endOn(1, p), endOn(1, q));
                    if (here * there < 0) many++;
                }
            }
            return many;
        }

        private int endOn(int side, int p) {
            return window[p] / PLACES == side ? window[p] : look[p];
        }

        int mostLookedAt() {
            int most = 0;
            int where = NONE;
            for (int w = 0; w < WINDOWS; w++) {
                int many = lookers(w);
                if (many > most) {
                    most = many;
                    where = w;
                }
            }
            return where;
        }

        int unseen() {
            int bits = 0;
            for (int p = 0; p < people; p++) {
                if (lookers(window[p]) == 0) bits |= 1 << p;
            }
            return bits;
        }

        int keptBits() {
            int bits = 0;
            for (int p = 0; p < people; p++) {
                if (isKept[p]) bits |= 1 << p;
            }
            return bits;
        }

        int leanOfAll() {
            int sum = 0;
            for (int p = 0; p < people; p++) {
                sum += lean[p];
            }
            return sum;
        }

        int mindingOfTheRest() {
            int sum = 0;
            for (int p = 0; p < people; p++) {
                if (!isKept[p]) sum += minding(p);
            }
            return sum;
        }

        int says(int part, int p) {
            if (law < 0 || law >= allTexts.length) return 0;
            fillNames(p);
            int value = allTexts[law].value(part, named);
            return bounded(value, part == HOLDS ? 0 : -99, 99);
        }

        /** In the order of the reader's names. */
        private void fillNames(int p) {
            named[0] = lean[p];
            named[1] = Math.abs(window[p] % PLACES - look[p] % PLACES);
            named[2] = beside(p);
            named[3] = day;
            named[4] = lookers(window[p]);
            named[5] = more[p];
        }

        private static int bounded(int v, int least, int most) {
            return Math.max(least, Math.min(most, v));
        }

        Person kindOf(int p) {
            int k = kind[p];
            return k >= 0 && k < allKinds.length ? allKinds[k] : allKinds[0];
        }

        int leaning(int p) {
            return kindOf(p).leaning(says(LEANS, p), isMet(p), day, more[p]);
        }

        int holding(int p) {
            return Math.max(0, kindOf(p).holding(says(HOLDS, p), more[p]));
        }

        int minding(int p) {
            return kindOf(p).minding(says(MINDS, p), more[p]);
        }

        int passDay() {
            int bits = 0;
            for (int p = 0; p < people; p++) {
                if (isKept[p]) continue;
                lean[p] = bounded(lean[p] + leaning(p), 0, MOST_LEAN);
                if (lean[p] > holding(p)) {
                    isKept[p] = true;
                    bits |= 1 << p;
                }
            }
            day++;
            return bits;
        }
    }

    /** A text as steps for a stack: of each part in its turn, operands ahead of what joins them. */
    static final class Text {
        static final int NUMBER = 0, NAME = 1, NEGATE = 2, NOT = 3, TIMES = 4, PLUS = 5, LESS_BY = 6;
        static final int BELOW = 7, ALIKE = 8, AND = 9, OR = 10;

        private final int[] steps = new int[TAPE_SIZE];
        private final int[] operands = new int[TAPE_SIZE];
        private final int[] stack = new int[TAPE_SIZE];
        private final int[] ends = new int[PARTS];
        private int size;

        void empty() {
            size = 0;
        }

        /** Each step is of a token of its own, so a whole tape has room. */
        void add(int step, int operand) {
            if (size >= TAPE_SIZE) return;
            steps[size] = step;
            operands[size] = operand;
            size++;
        }

        void endPart(int part) {
            if (part >= 0 && part < PARTS) ends[part] = size;
        }

        int value(int part, int[] named) {
            if (part < 0 || part >= PARTS) return 0;
            int top = 0;
            for (int i = part == 0 ? 0 : ends[part - 1]; i < ends[part]; i++) {
                int step = steps[i];
                if (step <= NAME) {
                    if (top >= TAPE_SIZE) return 0;
                    stack[top] = operand(step, operands[i], named);
                    top++;
                } else if (step <= NOT) {
                    if (top < 1) return 0;
                    stack[top - 1] = ofOne(step, stack[top - 1]);
                } else {
                    if (top < 2) return 0;
                    top--;
                    stack[top - 1] = ofTwo(step, stack[top - 1], stack[top]);
                }
            }
            return top > 0 ? stack[top - 1] : 0;
        }

        private static int operand(int step, int v, int[] named) {
            if (step == NUMBER) return v;
            return v >= 0 && v < named.length ? named[v] : 0;
        }

        private static int ofOne(int step, int v) {
            if (step == NEGATE) return -v;
            return v == 0 ? 1 : 0;
        }

        private static int ofTwo(int step, int a, int b) {
            switch (step) {
                case TIMES: return a * b;
                case PLUS: return a + b;
                case LESS_BY: return a - b;
                case BELOW: return a < b ? 1 : 0;
                case ALIKE: return a == b ? 1 : 0;
                case AND: return a != 0 && b != 0 ? 1 : 0;
                case OR: return a != 0 || b != 0 ? 1 : 0;
                default: return 0;
            }
        }
    }

    /** Reads a tape into a text, token by token, up to its first fault. */
    static final class Reader {
        // Signs stand for themselves as tokens, so the others are numbers that no byte has.
        private static final int END = 1000, WRONG = 1001, NUMBER = 1002, NAME = 1003;
        private static final int KEY_AND = 1010, KEY_OR = 1011, KEY_NOT = 1012, KEY_PARTS = 1020;
        private static final int MOST_OPEN = 5, MOST_DIGITS = 4, NO_FAULT = -1;

        private int[] tape;
        private Text text;
        private int size, next, token, place, value, fault;

        /** The place of the fault, or -1. */
        int readAll(int[] bytes, int length, Text into) {
            if (bytes == null || into == null) return 0;
            tape = bytes;
            size = Math.min(length, bytes.length);
            text = into;
            text.empty();
            next = 0;
            fault = NO_FAULT;
            step();
            for (int part = 0; part < PARTS; part++) {
                expect(KEY_PARTS + part);
                readOr(0);
                expect(';');
                text.endPart(part);
            }
            expect(END);
            return fault;
        }

        // A fault leaves a token that can stand nowhere: so all that is still open ends by itself.
        private void fail() {
            if (fault == NO_FAULT) fault = place;
            token = WRONG;
        }

        private void expect(int wanted) {
            if (token == wanted) {
                step();
            } else {
                fail();
            }
        }

        private void readOr(int open) {
            readAnd(open);
            for (int i = 0; i < TAPE_SIZE && token == KEY_OR; i++) {
                step();
                readAnd(open);
                text.add(Text.OR, 0);
            }
        }

        private void readAnd(int open) {
            readNot(open);
            for (int i = 0; i < TAPE_SIZE && token == KEY_AND; i++) {
                step();
                readNot(open);
                text.add(Text.AND, 0);
            }
        }

        private void readNot(int open) {
            if (token == KEY_NOT) {
                if (open >= MOST_OPEN) {
                    fail();
                    return;
                }
                step();
                readNot(open + 1);
                text.add(Text.NOT, 0);
                return;
            }
            readSum(open);
            if (token == '<' || token == '=') {
                int joins = token == '<' ? Text.BELOW : Text.ALIKE;
                step();
                readSum(open);
                text.add(joins, 0);
            }
        }

        private void readSum(int open) {
            readTerm(open);
            for (int i = 0; i < TAPE_SIZE && (token == '+' || token == '-'); i++) {
                int joins = token == '+' ? Text.PLUS : Text.LESS_BY;
                step();
                readTerm(open);
                text.add(joins, 0);
            }
        }

        private void readTerm(int open) {
            readOne(open);
            for (int i = 0; i < TAPE_SIZE && token == '*'; i++) {
                step();
                readOne(open);
                text.add(Text.TIMES, 0);
            }
        }

        private void readOne(int open) {
            if (token == NUMBER || token == NAME) {
                text.add(token == NUMBER ? Text.NUMBER : Text.NAME, value);
                step();
            } else if (open >= MOST_OPEN) {
                fail();
            } else if (token == '-') {
                step();
                readOne(open + 1);
                text.add(Text.NEGATE, 0);
            } else if (token == '(') {
                step();
                readOr(open + 1);
                expect(')');
            } else {
                fail();
            }
        }

        private void step() {
            while (next < size && (tape[next] == ' ' || tape[next] == '\n')) {
                next++;
            }
            place = next;
            if (next >= size) {
                token = END;
            } else if (isLetter(tape[next])) {
                takeWord();
            } else if (isDigit(tape[next])) {
                takeNumber();
            } else {
                token = isSign(tape[next]) ? tape[next] : WRONG;
                next++;
            }
        }

        private static boolean isLetter(int b) {
            return b >= 'a' && b <= 'z';
        }

        private static boolean isDigit(int b) {
            return b >= '0' && b <= '9';
        }

        private static boolean isSign(int b) {
            return b == '(' || b == ')' || b == ';' || b == '+' || b == '-' || b == '*' || b == '<' || b == '=';
        }

        private void takeNumber() {
            value = 0;
            while (next < size && isDigit(tape[next])) {
                // Wraps only where the number is too long and never used.
                value = 10 * value + tape[next] - '0';
                next++;
            }
            token = next - place > MOST_DIGITS ? WRONG : NUMBER;
        }

        private void takeWord() {
            while (next < size && isLetter(tape[next])) {
                next++;
            }
            value = nameNumber();
            token = value >= 0 ? NAME : keyToken();
        }

        private int nameNumber() {
            if (spells("lean")) return 0;
            if (spells("across")) return 1;
            if (spells("beside")) return 2;
            if (spells("day")) return 3;
            if (spells("lookers")) return 4;
            if (spells("more")) return 5;
            return -1;
        }

        private int keyToken() {
            if (spells("leans")) return KEY_PARTS + LEANS;
            if (spells("holds")) return KEY_PARTS + HOLDS;
            if (spells("minds")) return KEY_PARTS + MINDS;
            if (spells("and")) return KEY_AND;
            if (spells("or")) return KEY_OR;
            if (spells("not")) return KEY_NOT;
            return WRONG;
        }

        private boolean spells(String word) {
            if (next - place != word.length()) return false;
            for (int i = 0; i < word.length(); i++) {
                if (tape[place + i] != word.charAt(i)) return false;
            }
            return true;
        }
    }

    /** A row of numbers of a sort, or missing: one array for all that it becomes. */
    static final class Sheet {
        final int[] cells = new int[SHEET_SIZE];
        int sort = NO_SORT;
        int size;

        boolean isMissing() {
            return sort == NO_SORT;
        }

        void become(int newSort, int newSize) {
            sort = newSort;
            size = Math.max(0, Math.min(SHEET_SIZE, newSize));
            for (int i = 0; i < size; i++) {
                cells[i] = 0;
            }
        }

        boolean has(int i) {
            return i >= 0 && i < size;
        }

        /** Whether n numbers from i on are in the row; as n is no more than the size, nothing wraps. */
        boolean hasRow(int i, int n) {
            return n >= 0 && n <= size && i >= 0 && i <= size - n;
        }

        int get(int i) {
            return has(i) ? cells[i] : 0;
        }

        void set(int i, int v) {
            if (!has(i)) return;
            cells[i] = sort == BYTE ? (byte) v : sort == SHORT ? (short) v : v;
        }
    }
}
