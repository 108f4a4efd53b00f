import java.util.Arrays;

/** A rod that dips: tries of men in a barn, plans and laws about them, odds and an image. */
public final class RodDips {
    public static final int NONE = -1, BAD = -2, STATE = -3, FULL = -4;
    public static final long NO = Long.MIN_VALUE;

    private static final int NOTHING = -5, OTHER_KIND = -6, FIRST_FAULT = -10, SOUND = -1;
    private static final int FIRST_PLACES = 10, LEAST_PLACES = 2, MOST_PLACES = 100;
    private static final int MEN = 6, DAYS = 100, KINDS = 7, EXCUSES = 3;
    private static final int MOST_TRIES = 30, MOST_TEXTS = 5, MOST_BYTES = 120, MOST_FED = 8;
    private static final int MOST_CLAUSES = 8, MOST_OPEN = 5, MOST_KEPT = 20;
    private static final int MOST_IN_ODDS = 9, MOST_HIT_AFTERWARDS = 9, MOST_FAIR = 6, MOST_HOLES = 5;
    private static final int PERCENT = 100, FIELD_PLACES = 1000, TILTS = 100, NO_SAID_BEFORE = 100;
    private static final int MOST_STEPS_OF_DIVISOR = 100;

    private static final int TRY = 0, FIELD = 1, BARN = 2, SEEN = 3, MIDDLE = 4, BOXED = 5, WARM = 6;
    private static final int[] KIND_ABOVE = {-1, TRY, TRY, TRY, BARN, BARN, SEEN};

    private static final String PLAN_LETTERS = "mdkxtsn", LAW_LETTERS = "pdkml", SIGNS = "<=>";
    private static final int END = -1, AND = -1, OR = -2, NOT = -3;

    private int places = FIRST_PLACES;
    private final Try[] tries = new Try[MOST_TRIES];
    private int tryCount = 0;
    private final Tape tape = new Tape();
    private final Text[] plans = new Text[MOST_TEXTS];
    private int planCount = 0;
    private final Text[] laws = new Text[MOST_TEXTS];
    private int lawCount = 0;
    private final Odds odds = new Odds();
    private final Odds feeling = new Odds();
    private final Trace trace = new Trace();

    // What is numbered below these counts never changes but for EXCUSED, so the counts and that are enough.
    private boolean imageTaken = false;
    private int imagePlaces = FIRST_PLACES;
    private int imageTries = 0;
    private int imagePlans = 0;
    private int imageLaws = 0;
    private final int[] imageExcused = new int[MOST_TRIES];
    private final Tape imageTape = new Tape();

    public RodDips() {
        for (int i = 0; i < MOST_TEXTS; i++) {
            plans[i] = new Text(false);
            laws[i] = new Text(true);
        }
    }

    // ---- barns, tries

    public int barn(int n) {
        if (n < LEAST_PLACES || n > MOST_PLACES) return BAD;
        if (tryCount > 0) return STATE;
        int before = places;
        places = n;
        return before;
    }

    public int tryout(int man, int day, int kind, int pipe, int said) {
        if (!isMan(man) || !isKind(kind) || !isPlace(pipe) || !isPlace(said)) return NONE;
        if (day < 0 || day >= DAYS) return BAD;
        if (tryCount >= MOST_TRIES) return FULL;
        Try made = madeOfKind(kind);
        made.number = tryCount;
        made.man = man;
        made.day = day;
        made.kind = kind;
        made.pipe = pipe;
        made.said = said;
        made.near = Math.abs(said - pipe);
        tries[tryCount] = made;
        return tryCount++;
    }

    public int excuse(int tryout, int n) {
        Try asked = tryAt(tryout);
        if (asked == null) return NONE;
        if (n < 0 || n >= EXCUSES) return BAD;
        int before = asked.excused;
        asked.excused = n;
        return before;
    }

    public int of(int tryout, int what) {
        Try asked = tryAt(tryout);
        if (asked == null) return NONE;
        switch (what) {
            case 0: return asked.man;
            case 1: return asked.day;
            case 2: return asked.kind;
            case 3: return asked.pipe;
            case 4: return asked.said;
            case 5: return asked.excused;
            case 6: return asked.near;
            default: return NONE;
        }
    }

    // ---- plans

    public int feed(long w, int n) {
        if (n < 1 || n > MOST_FED) return BAD;
        return tape.add(w, n) ? tape.size : FULL;
    }

    public int plan() {
        if (planCount >= MOST_TEXTS) return FULL;
        int fault = tape.readInto(plans[planCount]);
        return fault == SOUND ? planCount++ : FIRST_FAULT - fault;
    }

    public int told(int plan, int what) {
        Text asked = planAt(plan);
        if (asked == null) return NONE;
        switch (what) {
            case 0: return asked.hit;
            case 1: return asked.need;
            case 2: return countedBits(asked);
            case 3: return hitBits(asked);
            default: return NONE;
        }
    }

    public int passes(int plan) {
        Text asked = planAt(plan);
        return asked == null ? NONE : passingMen(hitBits(asked), asked.need);
    }

    // ---- odds

    public long chance(int plan, int tryout, int part) {
        Text by = planAt(plan);
        Try asked = tryAt(tryout);
        if (by == null || asked == null) return NO;
        return partOf(placesWithin(asked.said, by.hit), places, part);
    }

    public long odds(int plan, int tries, int k, int what, int part) {
        Text by = planAt(plan);
        if (by == null || !isSet(tries) || !isHitNumber(k) || !isOneOfTwo(what)) return NO;
        if (Integer.bitCount(tries) > MOST_IN_ODDS) return NO;
        setOdds(tries, by.hit);
        return partOf(what == 0 ? odds.orMore(k) : odds.exactly(k), odds.all, part);
    }

    public long best(int plan, int k, int what, int part) {
        Text by = planAt(plan);
        if (by == null || !isHitNumber(k) || !isOneOfTwo(what)) return NO;
        return what == 0 ? bestOfMen(by, k, part) : bestAlone(by, k, part);
    }

    public int fixed(int plan, int man) {
        Text by = planAt(plan);
        if (by == null || !isMan(man)) return NONE;
        int set = countedBits(by) & bitsOfMan(man);
        if (set == 0) return NOTHING;
        int chosen = 0;
        int least = sumOfNears(set, 0);
        for (int place = 1; place < places; place++) {
            int sum = sumOfNears(set, place);
            if (sum < least) {
                least = sum;
                chosen = place;
            }
        }
        return chosen;
    }

    public int beats(int plan) {
        Text by = planAt(plan);
        if (by == null) return NONE;
        int counted = countedBits(by);
        int men = 0;
        for (int man = 0; man < MEN; man++) {
            int set = counted & bitsOfMan(man);
            // Without any of his, both sums are 0, so he never beats.
            if (sumOfOwnNears(set) < sumOfNears(set, places / 2)) men |= 1 << man;
        }
        return men;
    }

    public int otherwise(int plan) {
        Text by = planAt(plan);
        if (by == null) return NONE;
        int counted = countedBits(by);
        if (counted == 0) return NOTHING;
        int chosen = 0;
        int most = hitsBySaying(counted, by.hit, 0);
        for (int place = 1; place < places; place++) {
            int hits = hitsBySaying(counted, by.hit, place);
            if (hits > most) {
                most = hits;
                chosen = place;
            }
        }
        return chosen;
    }

    public int afterwards(int plan, int man) {
        Text by = planAt(plan);
        if (by == null || !isMan(man)) return NONE;
        int set = countedBits(by) & bitsOfMan(man);
        if (set == 0 || Integer.bitCount(set) > MOST_IN_ODDS) return NOTHING;
        int chosen = 0;
        long least = waysAsGood(set, 0);
        for (int hit = 1; hit <= MOST_HIT_AFTERWARDS; hit++) {
            // All of them stand above the same line, so what stands above tells which is less.
            long ways = waysAsGood(set, hit);
            if (ways < least) {
                least = ways;
                chosen = hit;
            }
        }
        return chosen;
    }

    // ---- laws

    public int law() {
        if (lawCount >= MOST_TEXTS) return FULL;
        int fault = tape.readInto(laws[lawCount]);
        return fault == SOUND ? lawCount++ : FIRST_FAULT - fault;
    }

    public int says(int law, int tryout) {
        Text by = lawAt(law);
        Try asked = tryAt(tryout);
        if (by == null || asked == null) return NONE;
        return by.lawful(asked, saidBefore(asked), places);
    }

    public int cannot(int law) {
        Text by = lawAt(law);
        if (by == null) return NONE;
        int has = bitsThatLawHas(by);
        for (int i = 0; i < tryCount; i++) {
            if ((has >> i & 1) == 0) return i;
        }
        return NOTHING;
    }

    public int fits(int law, int tries) {
        Text by = lawAt(law);
        if (by == null) return NONE;
        if (!isSet(tries)) return BAD;
        return Integer.bitCount(bitsThatLawHas(by) & tries);
    }

    public int let(int tries) {
        if (!isSet(tries)) return BAD;
        int letting = 0;
        for (int i = 0; i < lawCount; i++) {
            Text by = lawAt(i);
            if (by != null && (tries & ~bitsThatLawHas(by)) == 0) letting |= 1 << i;
        }
        return letting;
    }

    // ---- plans that are fair, excuses, fields, rods

    public int fair(int hit, int place, int f, int a, int b) {
        if (!isPlace(place)) return NONE;
        if (hit < 0 || hit >= MOST_PLACES || !isPercent(f) || !isPercent(a) || !isPercent(b)) return BAD;
        feeling.start();
        odds.start();
        for (int t = 1; t <= MOST_FAIR; t++) {
            feeling.add(f, PERCENT);
            odds.add(placesWithin(place, hit), places);
            for (int k = 0; k <= t; k++) {
                boolean rarelyMissed = feeling.fewer(k) * PERCENT <= a * feeling.all;
                boolean rarelyTaken = odds.orMore(k) * PERCENT <= b * odds.all;
                if (rarelyMissed && rarelyTaken) return 10 * t + k;
            }
        }
        return NOTHING;
    }

    public int excuses(int plan, int man, int what, int share) {
        Text by = planAt(plan);
        if (by == null || !isMan(man) || what < 0 || what > 2) return NONE;
        if (!isPercent(share)) return BAD;
        int his = bitsOfMan(man);
        int hits = hitBits(by) & his;
        if (what == 0) return Integer.bitCount(hits);
        if (what == 1) return Integer.bitCount(hits & ~bitsExcusedAfter());
        return leastLeftOut(Integer.bitCount(countedBits(by) & his), Integer.bitCount(hits), share);
    }

    public long field(int c, int n, int part) {
        if (c < 0 || c > FIELD_PLACES || n < 0 || n > MOST_HOLES) return NO;
        long water = 1;
        long all = 1;
        for (int hole = 0; hole < n; hole++) {
            water *= c;
            all *= FIELD_PLACES;
        }
        return partOf(water, all, part);
    }

    public int holes(int c, int q) {
        if (c < 0 || c > FIELD_PLACES || q < 1 || q > 99) return BAD;
        long water = 1;
        long all = 1;
        for (int n = 0; n <= MOST_HOLES; n++) {
            if (water * q <= all) return n;
            water *= c;
            all *= FIELD_PLACES;
        }
        return NOTHING;
    }

    public int rod(int grip, int lean, int hold) {
        if (grip < 0 || grip > 9 || lean < -99 || lean > 99 || hold < 0 || hold > 999) return BAD;
        for (int tilt = 0; tilt < TILTS; tilt++) {
            if (grip * tilt + lean > hold) return tilt;
        }
        return NOTHING;
    }

    public int papers(int a, int b, int what) {
        Text one = planAt(a);
        Text other = planAt(b);
        if (one == null || other == null) return NONE;
        switch (what) {
            case 0: return countedBits(one) ^ countedBits(other);
            case 1: return countedBits(one) & countedBits(other) & (hitBits(one) ^ hitBits(other));
            case 2: return passingMen(hitBits(one), one.need) ^ passingMen(hitBits(other), other.need);
            default: return NONE;
        }
    }

    // ---- acts, the image

    public int act(int tryout, int act, int x) {
        trace.clear();
        Try asked = tryAt(tryout);
        if (asked == null) return 0;
        switch (act) {
            case 0: return asked.say(x);
            case 1: return asked.know(x);
            case 2: return asked.tell(x);
            default: return 0;
        }
    }

    public int trace(int i) {
        return trace.bodyAt(i);
    }

    public int as(int tryout, int k) {
        Try asked = tryAt(tryout);
        if (asked == null || !isKind(k)) return NONE;
        return isKindOrUnder(asked.kind, k) ? asked.near : OTHER_KIND;
    }

    public int image() {
        imageTaken = true;
        imagePlaces = places;
        imageTries = tryCount;
        imagePlans = planCount;
        imageLaws = lawCount;
        for (int i = 0; i < tryCount && i < imageExcused.length; i++) {
            Try kept = tryAt(i);
            if (kept != null) imageExcused[i] = kept.excused;
        }
        imageTape.copyOf(tape);
        return tryCount;
    }

    public int undo() {
        if (!imageTaken) return STATE;
        places = imagePlaces;
        tryCount = imageTries;
        planCount = imagePlans;
        lawCount = imageLaws;
        for (int i = 0; i < tryCount && i < imageExcused.length; i++) {
            Try kept = tryAt(i);
            if (kept != null) kept.excused = imageExcused[i];
        }
        tape.copyOf(imageTape);
        return tryCount;
    }

    public int count(int what) {
        switch (what) {
            case 0: return places;
            case 1: return tryCount;
            case 2: return planCount;
            case 3: return lawCount;
            case 4: return tape.size;
            case 5: return trace.ran;
            default: return NONE;
        }
    }

    // ---- what numbers may be

    private static boolean isMan(int man) {
        return man >= 0 && man < MEN;
    }

    private static boolean isKind(int kind) {
        return kind >= 0 && kind < KINDS;
    }

    private static boolean isHitNumber(int k) {
        return k >= 0 && k <= MOST_IN_ODDS;
    }

    private static boolean isOneOfTwo(int what) {
        return what == 0 || what == 1;
    }

    private static boolean isPercent(int n) {
        return n >= 0 && n <= PERCENT;
    }

    private boolean isPlace(int place) {
        return place >= 0 && place < places;
    }

    private boolean isSet(int bits) {
        return bits >> tryCount == 0;
    }

    private static boolean isKindOrUnder(int kind, int above) {
        int up = kind;
        for (int step = 0; step < KINDS && up >= 0 && up < KIND_ABOVE.length; step++) {
            if (up == above) return true;
            up = KIND_ABOVE[up];
        }
        return false;
    }

    // ---- what there is

    private Try tryAt(int number) {
        return number >= 0 && number < tryCount && number < tries.length ? tries[number] : null;
    }

    private Text planAt(int number) {
        return number >= 0 && number < planCount && number < plans.length ? plans[number] : null;
    }

    private Text lawAt(int number) {
        return number >= 0 && number < lawCount && number < laws.length ? laws[number] : null;
    }

    private Try madeOfKind(int kind) {
        switch (kind) {
            case FIELD: return new Field(trace);
            case BARN: return new Barn(trace);
            case SEEN: return new Seen(trace);
            case MIDDLE: return new Middle(trace);
            case BOXED: return new Boxed(trace);
            case WARM: return new Warm(trace);
            default: return new Try(trace);
        }
    }

    // ---- sets of tries and of men, as bits

    private int bitsOfMan(int man) {
        int bits = 0;
        for (int i = 0; i < tryCount; i++) {
            Try one = tryAt(i);
            if (one != null && one.man == man) bits |= 1 << i;
        }
        return bits;
    }

    private int bitsNoFartherThan(int hit) {
        int bits = 0;
        for (int i = 0; i < tryCount; i++) {
            Try one = tryAt(i);
            if (one != null && one.near <= hit) bits |= 1 << i;
        }
        return bits;
    }

    private int bitsExcusedAfter() {
        int bits = 0;
        for (int i = 0; i < tryCount; i++) {
            Try one = tryAt(i);
            if (one != null && one.excused == 2) bits |= 1 << i;
        }
        return bits;
    }

    private int countedBits(Text plan) {
        int bits = 0;
        for (int i = 0; i < tryCount; i++) {
            Try one = tryAt(i);
            if (one != null && plan.counts(one)) bits |= 1 << i;
        }
        return bits;
    }

    private int hitBits(Text plan) {
        return countedBits(plan) & bitsNoFartherThan(plan.hit);
    }

    private int passingMen(int hits, int need) {
        int men = 0;
        for (int man = 0; man < MEN; man++) {
            if (Integer.bitCount(hits & bitsOfMan(man)) >= need) men |= 1 << man;
        }
        return men;
    }

    private int bitsThatLawHas(Text law) {
        int bits = 0;
        for (int i = 0; i < tryCount; i++) {
            Try one = tryAt(i);
            if (one == null) continue;
            int lawful = law.lawful(one, saidBefore(one), places);
            if (lawful == NOTHING || Math.abs(one.said - lawful) <= law.near) bits |= 1 << i;
        }
        return bits;
    }

    private int saidBefore(Try asked) {
        for (int i = asked.number - 1; i >= 0; i--) {
            Try earlier = tryAt(i);
            if (earlier != null && earlier.man == asked.man) return earlier.said;
        }
        return NO_SAID_BEFORE;
    }

    // ---- chances and sums over sets

    private int placesWithin(int said, int hit) {
        return Math.min(places - 1, said + hit) - Math.max(0, said - hit) + 1;
    }

    private void setOdds(int set, int hit) {
        odds.start();
        for (int i = 0; i < tryCount; i++) {
            Try one = tryAt(i);
            if (one != null && (set >> i & 1) == 1) odds.add(placesWithin(one.said, hit), places);
        }
    }

    private long bestOfMen(Text plan, int k, int part) {
        int counted = countedBits(plan);
        if (Integer.bitCount(counted) > MOST_IN_ODDS) return NO;
        long nobody = 1;
        long all = 1;
        for (int man = 0; man < MEN; man++) {
            setOdds(counted & bitsOfMan(man), plan.hit);
            nobody *= odds.fewer(k);
            all *= odds.all;
        }
        return partOf(all - nobody, all, part);
    }

    private long bestAlone(Text plan, int k, int part) {
        int counted = countedBits(plan);
        int hits = counted & bitsNoFartherThan(plan.hit);
        int most = -1;
        int his = 0;
        for (int man = 0; man < MEN; man++) {
            int set = counted & bitsOfMan(man);
            int hitsOfMan = Integer.bitCount(hits & set);
            if (set != 0 && hitsOfMan > most) {
                most = hitsOfMan;
                his = set;
            }
        }
        if (his == 0 || Integer.bitCount(his) > MOST_IN_ODDS) return NO;
        setOdds(his, plan.hit);
        return partOf(odds.orMore(k), odds.all, part);
    }

    private int sumOfNears(int set, int place) {
        int sum = 0;
        for (int i = 0; i < tryCount; i++) {
            Try one = tryAt(i);
            if (one != null && (set >> i & 1) == 1) sum += Math.abs(place - one.pipe);
        }
        return sum;
    }

    private int sumOfOwnNears(int set) {
        int sum = 0;
        for (int i = 0; i < tryCount; i++) {
            Try one = tryAt(i);
            if (one != null && (set >> i & 1) == 1) sum += one.near;
        }
        return sum;
    }

    private int hitsBySaying(int set, int hit, int place) {
        int hits = 0;
        for (int i = 0; i < tryCount; i++) {
            Try one = tryAt(i);
            if (one != null && (set >> i & 1) == 1 && Math.abs(place - one.pipe) <= hit) hits++;
        }
        return hits;
    }

    private long waysAsGood(int set, int hit) {
        setOdds(set, hit);
        return odds.orMore(Integer.bitCount(set & bitsNoFartherThan(hit)));
    }

    private static int leastLeftOut(int counted, int hits, int share) {
        for (int out = 0; out < counted; out++) {
            // Those that are no HITS are left out first: nothing else helps as much.
            int in = counted - out;
            if (Math.min(hits, in) * PERCENT >= share * in) return out;
        }
        return NOTHING;
    }

    // ---- fractions

    private static long partOf(long above, long below, int part) {
        long divisor = greatestDivisor(above, below);
        if (divisor < 1 || !isOneOfTwo(part)) return NO;
        return part == 0 ? above / divisor : below / divisor;
    }

    private static long greatestDivisor(long a, long b) {
        long larger = a;
        long smaller = b;
        for (int step = 0; step < MOST_STEPS_OF_DIVISOR && smaller != 0; step++) {
            long rest = larger % smaller;
            larger = smaller;
            smaller = rest;
        }
        return larger;
    }

    /** A TRY, and the bodies of the KIND that all others are under. */
    private static class Try {
        private final Trace trace;
        private int number, man, day, kind, pipe, said, near, excused;

        private Try(Trace trace) {
            this.trace = trace;
        }

        final int number() {
            return number;
        }

        final int place() {
            return said;
        }

        final void begin(int body) {
            if (trace != null) trace.add(body);
        }

        final int valueOf(int letter, int before) {
            switch (letter) {
                case 'm': return man;
                case 'd': return day;
                case 'k': return kind;
                case 'x': return excused;
                case 't': return number;
                case 's': return said;
                case 'n': return near;
                case 'p': return pipe;
                default: return before;
            }
        }

        int say(int x) {
            begin(1);
            return x + number;
        }

        int know(int x) {
            begin(2);
            return say(x) - said;
        }

        int tell(int x) {
            begin(3);
            return know(x) * 2;
        }
    }

    private static final class Field extends Try {
        private Field(Trace trace) {
            super(trace);
        }

        @Override
        int say(int x) {
            begin(11);
            return super.say(x * 3);
        }
    }

    private static class Barn extends Try {
        private Barn(Trace trace) {
            super(trace);
        }

        @Override
        int know(int x) {
            begin(21);
            return -super.know(x);
        }
    }

    private static class Seen extends Try {
        private Seen(Trace trace) {
            super(trace);
        }

        @Override
        int tell(int x) {
            begin(31);
            return super.tell(x) ^ 7;
        }
    }

    private static final class Middle extends Barn {
        private Middle(Trace trace) {
            super(trace);
        }

        @Override
        int tell(int x) {
            begin(41);
            return super.tell(x - 1) + say(2);
        }
    }

    private static final class Boxed extends Barn {
        private Boxed(Trace trace) {
            super(trace);
        }

        @Override
        int say(int x) {
            begin(51);
            return super.say(x) ^ number();
        }
    }

    private static final class Warm extends Seen {
        private Warm(Trace trace) {
            super(trace);
        }

        @Override
        int know(int x) {
            begin(61);
            return super.know(x) + place();
        }
    }

    /** THE TRACE: of the bodies that ran only the first ones are kept, but all are counted. */
    private static final class Trace {
        private final int[] kept = new int[MOST_KEPT];
        private int ran = 0;

        void clear() {
            ran = 0;
        }

        void add(int body) {
            if (ran >= 0 && ran < kept.length) kept[ran] = body;
            ran++;
        }

        int bodyAt(int i) {
            return i >= 0 && i < ran && i < kept.length ? kept[i] : NONE;
        }
    }

    /** THE TAPE, and how a PLAN or a LAW is read from it. */
    private static final class Tape {
        private final byte[] bytes = new byte[MOST_BYTES];
        private int size = 0;
        private int at = 0;

        boolean add(long w, int n) {
            if (n > bytes.length - size) return false;
            for (int left = n - 1; left >= 0 && size < bytes.length; left--) {
                bytes[size] = (byte) (w >>> 8 * left);
                size++;
            }
            return true;
        }

        void copyOf(Tape other) {
            size = Math.min(other.size, Math.min(bytes.length, other.bytes.length));
            System.arraycopy(other.bytes, 0, bytes, 0, size);
        }

        /** The FAULT, or SOUND; nothing is on THE TAPE then. */
        int readInto(Text text) {
            if (text == null) return 0;
            text.clear();
            at = 0;
            boolean sound = readClause(text);
            for (int clauses = 1; sound && look() == ';' && clauses < MOST_CLAUSES; clauses++) {
                at++;
                sound = readClause(text);
            }
            int fault = sound && at >= size ? SOUND : at;
            size = 0;
            return fault;
        }

        private boolean readClause(Text text) {
            int first = look();
            String word = text.wordThatBegins(first);
            if (word.isEmpty() || !readWord(word)) return false;
            if (text.isTold(first)) {
                int n = readNumber();
                text.tell(first, n);
                return n >= 0;
            }
            int n = 0;
            if (text.law) {
                n = readNumber();
                if (n < 0 || !readWord(" ")) return false;
            }
            text.startClause(first, n);
            return readE(text, 0);
        }

        private boolean readWord(String word) {
            for (int i = 0; i < word.length(); i++) {
                if (look() != word.charAt(i)) return false;
                at++;
            }
            return true;
        }

        private int readNumber() {
            int tens = look() - '0';
            if (tens < 0 || tens > 9) return -1;
            at++;
            int ones = look() - '0';
            if (tens == 0 || ones < 0 || ones > 9) return tens;
            at++;
            return tens * 10 + ones;
        }

        private boolean readE(Text text, int open) {
            for (int terms = 1; terms <= MOST_BYTES; terms++) {
                if (!readF(text, open)) return false;
                for (int left = MOST_BYTES; left > 0 && look() == '&'; left--) {
                    at++;
                    if (!readF(text, open)) return false;
                    text.put(AND);
                }
                if (terms > 1) text.put(OR);
                if (look() != '|') return true;
                at++;
            }
            return false;
        }

        private boolean readF(Text text, int open) {
            int first = look();
            if (first != '!' && first != '(') return readTest(text);
            if (open >= MOST_OPEN) return false;
            at++;
            if (first == '(') return readE(text, open + 1) && readWord(")");
            if (!readF(text, open + 1)) return false;
            text.put(NOT);
            return true;
        }

        private boolean readTest(Text text) {
            int letter = look();
            if (letter == END || text.letters.indexOf((char) letter) < 0) return false;
            at++;
            int sign = look() == END ? -1 : SIGNS.indexOf((char) look());
            if (sign < 0) return false;
            at++;
            int n = readNumber();
            if (n < 0) return false;
            text.put(letter << 9 | sign << 7 | n);
            return true;
        }

        private int look() {
            return at >= 0 && at < size && at < bytes.length ? bytes[at] & 255 : END;
        }
    }

    /** A PLAN or a LAW. Its Es stand behind one another in code, each with what joins tests behind these. */
    private static final class Text {
        private final boolean law;
        private final String letters;
        private final int[] code = new int[MOST_BYTES];
        private final int[] word = new int[MOST_CLAUSES];
        private final int[] number = new int[MOST_CLAUSES];
        private final int[] end = new int[MOST_CLAUSES];
        private int codeSize, clauses, hit, need, near;

        private Text(boolean law) {
            this.law = law;
            this.letters = law ? LAW_LETTERS : PLAN_LETTERS;
        }

        void clear() {
            codeSize = 0;
            clauses = 0;
            hit = 0;
            need = 1;
            near = 0;
        }

        boolean isTold(int first) {
            return first == 'h' || first == 'n';
        }

        String wordThatBegins(int first) {
            switch (first) {
                case 'h': return law ? "" : "hit ";
                case 'n': return law ? "near " : "need ";
                case 't': return law ? "" : "take ";
                case 'd': return law ? "" : "drop ";
                case 'a': return law ? "at " : "";
                case 'b': return law ? "by " : "";
                case 'o': return law ? "off " : "";
                default: return "";
            }
        }

        void tell(int first, int n) {
            if (first == 'h') hit = n;
            else if (law) near = n;
            else need = n;
        }

        void startClause(int first, int n) {
            if (clauses < 0 || clauses >= word.length || clauses >= number.length) return;
            word[clauses] = first;
            number[clauses] = n;
            clauses++;
        }

        void put(int value) {
            if (codeSize < 0 || codeSize >= code.length) return;
            code[codeSize] = value;
            codeSize++;
            if (clauses > 0 && clauses <= end.length) end[clauses - 1] = codeSize;
        }

        boolean counts(Try one) {
            boolean anyTake = false;
            boolean taken = false;
            for (int i = 0; i < clauses && i < word.length; i++) {
                boolean held = holds(i, one, NO_SAID_BEFORE);
                if (word[i] != 't' && held) return false;
                if (word[i] == 't') {
                    anyTake = true;
                    taken = taken || held;
                }
            }
            return taken || !anyTake;
        }

        int lawful(Try one, int before, int places) {
            for (int i = 0; i < clauses && i < word.length && i < number.length; i++) {
                if (!holds(i, one, before)) continue;
                int place = number[i];
                if (word[i] == 'b') place = one.pipe + number[i];
                if (word[i] == 'o') place = one.pipe - number[i];
                return Math.max(0, Math.min(places - 1, place));
            }
            return NOTHING;
        }

        private boolean holds(int clause, Try one, int before) {
            if (clause < 0 || clause >= end.length) return false;
            // What still waits to be joined stands in bits, the latest lowest: some dozen at most wait at once.
            int waiting = 0;
            for (int i = clause == 0 ? 0 : end[clause - 1]; i >= 0 && i < end[clause] && i < code.length; i++) {
                int value = code[i];
                int last = waiting & 1;
                if (value == NOT) waiting ^= 1;
                else if (value == AND) waiting = waiting >> 1 & (last | ~1);
                else if (value == OR) waiting = waiting >> 1 | last;
                else waiting = waiting << 1 | (testHolds(value, one, before) ? 1 : 0);
            }
            return (waiting & 1) == 1;
        }

        private static boolean testHolds(int test, Try one, int before) {
            int value = one.valueOf(test >> 9, before);
            int n = test & 127;
            switch (test >> 7 & 3) {
                case 0: return value < n;
                case 1: return value == n;
                default: return value > n;
            }
        }
    }

    /** In how many of all ways a number of TRIES are HITS, of TRIES that are added one by one. */
    private static final class Odds {
        private final long[] ways = new long[MOST_IN_ODDS + 1];
        private int size = 0;
        private long all = 1;

        void start() {
            Arrays.fill(ways, 0);
            ways[0] = 1;
            size = 0;
            all = 1;
        }

        void add(long hits, long cases) {
            // With more, all the ways could be too many for a long.
            if (size < 0 || size >= MOST_IN_ODDS) return;
            size++;
            for (int k = size; k > 0 && k < ways.length; k--) {
                ways[k] = ways[k] * (cases - hits) + ways[k - 1] * hits;
            }
            ways[0] *= cases - hits;
            all *= cases;
        }

        long exactly(int k) {
            return k >= 0 && k <= size && k < ways.length ? ways[k] : 0;
        }

        long fewer(int k) {
            long sum = 0;
            for (int fewer = 0; fewer < k && fewer <= size; fewer++) sum += exactly(fewer);
            return sum;
        }

        long orMore(int k) {
            return all - fewer(k);
        }
    }
}
