/** Each sentence of paragraph 2 that names a boundary: both of its sides. */
public final class EdgesOfOddsTest {
    private static final int NONE = -1, NOTHING = -5;
    private static final int MIN = Integer.MIN_VALUE, MAX = Integer.MAX_VALUE;
    private static final long NO = Long.MIN_VALUE, MOST = 1000000000000000000L;
    private static final Check check = new Check();

    public static void main(String[] args) {
        chanceAtTheSides();
        chanceOfTwoPlaces();
        chanceRefused();
        orMoreAndExactly();
        oddsOfNone();
        nineTries();
        setsOfThirty();
        oddsRefused();
        certainAndRare();
        bestOfAllSix();
        bestNineCounted();
        aloneTheMostHits();
        aloneNine();
        bestRefused();
        fixedLeast();
        fixedRefused();
        theMiddle();
        otherwiseLeast();
        otherwiseRefused();
        afterwardsLeast();
        afterwardsNine();
        afterwardsRefused();
        check.end();
    }

    private static void add(RodDips x, int man, int pipe, int said) {
        x.tryout(man, 0, 0, pipe, said);
    }

    private static void due(String call, long above, long below, long wantAbove, long wantBelow) {
        check.dueOf(call, above, below, wantAbove, wantBelow);
    }

    private static void chance(RodDips x, int plan, int tryout, long above, long below) {
        due("chance(" + plan + ", " + tryout + ")", x.chance(plan, tryout, 0), x.chance(plan, tryout, 1), above, below);
    }

    private static void odds(RodDips x, int plan, int set, int k, int what, long above, long below) {
        String call = "odds(" + plan + ", " + set + ", " + k + ", " + what + ")";
        due(call, x.odds(plan, set, k, what, 0), x.odds(plan, set, k, what, 1), above, below);
    }

    private static void best(RodDips x, int plan, int k, int what, long above, long below) {
        String call = "best(" + plan + ", " + k + ", " + what + ")";
        due(call, x.best(plan, k, what, 0), x.best(plan, k, what, 1), above, below);
    }

    // ---- CHANCE

    private static void chanceAtTheSides() {
        check.promise("CHANCE: how many PLACES are no farther from SAID than hit, by all PLACES");
        RodDips x = new RodDips();
        x.barn(100);
        int[] said = {0, 1, 50, 98, 99};
        for (int place : said) add(x, 0, 0, place);
        int[] hits = {0, 1, 49, 98, 99};
        for (int hit : hits) Check.planWide(x, "hit " + hit);
        // How many of the hundred places are that near.
        int[][] want = {{1, 1, 1, 1, 1}, {2, 3, 3, 3, 2}, {50, 51, 99, 51, 50}, {99, 100, 100, 100, 99}, {100, 100, 100, 100, 100}};
        for (int plan = 0; plan < 5; plan++) {
            for (int i = 0; i < 5; i++) {
                int divisor = 1;
                for (int d = 2; d <= 100; d++) if (want[plan][i] % d == 0 && 100 % d == 0) divisor = d;
                chance(x, plan, i, want[plan][i] / divisor, 100 / divisor);
            }
        }
    }

    private static void chanceOfTwoPlaces() {
        check.promise("CHANCE in the least BARN");
        RodDips x = new RodDips();
        x.barn(2);
        add(x, 0, 0, 0);
        add(x, 0, 0, 1);
        Check.plan(x, "hit 0");
        Check.plan(x, "hit 1");
        Check.plan(x, "hit 99");
        for (int i = 0; i < 2; i++) {
            chance(x, 0, i, 1, 2);
            chance(x, 1, i, 1, 1);
            chance(x, 2, i, 1, 1);
        }
    }

    private static void chanceRefused() {
        check.promise("chance: NO");
        RodDips x = new RodDips();
        check.due("nothing there", x.chance(0, 0, 0), NO);
        Check.plan(x, "hit 0");
        check.due("no try", x.chance(0, 0, 0), NO);
        add(x, 0, 0, 0);
        for (int n : new int[] {-1, 1, 2, 5, 30, MIN, MAX}) {
            check.due("plan " + n, x.chance(n, 0, 0), NO);
            check.due("try " + n, x.chance(0, n, 0), NO);
            if (n != 1) check.due("part " + n, x.chance(0, 0, n), NO);
        }
        check.due("part 0", x.chance(0, 0, 0), 1);
        check.due("part 1", x.chance(0, 0, 1), 10);
    }

    // ---- ODDS

    private static void orMoreAndExactly() {
        check.promise("ODDS: that k or more would be HITS. EXACTLY: of just k");
        RodDips x = new RodDips();
        x.barn(2);
        for (int i = 0; i < 9; i++) add(x, i % 6, 0, i % 2);
        Check.plan(x, "hit 0");
        // Halves: of nine just k in these many of 512 ways.
        int[] ways = {1, 9, 36, 84, 126, 126, 84, 36, 9, 1};
        int more = 512;
        for (int k = 0; k <= 9; k++) {
            int one = Math.min(512, Integer.lowestOneBit(ways[k])), all = Math.min(512, Integer.lowestOneBit(more));
            odds(x, 0, 511, k, 1, ways[k] / one, 512 / one);
            odds(x, 0, 511, k, 0, more / all, 512 / all);
            more -= ways[k];
        }
        odds(x, 0, 1, 0, 0, 1, 1);
        odds(x, 0, 1, 1, 0, 1, 2);
        odds(x, 0, 1, 2, 0, 0, 1);
        odds(x, 0, 1, 9, 0, 0, 1);
        odds(x, 0, 1, 0, 1, 1, 2);
        odds(x, 0, 1, 1, 1, 1, 2);
        odds(x, 0, 1, 2, 1, 0, 1);
        odds(x, 0, 1, 9, 1, 0, 1);
    }

    private static void oddsOfNone() {
        check.promise("ODDS of a set of none");
        RodDips x = new RodDips();
        Check.plan(x, "hit 0");
        for (int tries = 0; tries < 2; tries++) {
            odds(x, 0, 0, 0, 0, 1, 1);
            odds(x, 0, 0, 0, 1, 1, 1);
            for (int k = 1; k <= 9; k++) {
                odds(x, 0, 0, k, 0, 0, 1);
                odds(x, 0, 0, k, 1, 0, 1);
            }
            add(x, 0, 0, 0);
        }
    }

    private static void nineTries() {
        check.promise("9 TRIES at most (else there are none)");
        RodDips x = new RodDips();
        x.barn(100);
        for (int i = 0; i < 12; i++) add(x, 0, 0, i % 2 * 99);
        Check.plan(x, "hit 0;take t>50");
        for (int part = 0; part < 2; part++) {
            for (int what = 0; what < 2; what++) {
                check.due("ten", x.odds(0, 1023, 1, what, part), NO);
                check.due("ten others", x.odds(0, 1023 << 2, 0, what, part), NO);
                check.due("eleven", x.odds(0, 2047, 9, what, part), NO);
                check.due("twelve", x.odds(0, 4095, 9, what, part), NO);
            }
        }
        odds(x, 0, 511, 9, 0, 1, MOST);
        odds(x, 0, 511, 9, 1, 1, MOST);
        odds(x, 0, 511 << 3, 9, 0, 1, MOST);
        odds(x, 0, 0b101010101111, 8, 1, 1, 10000000000000000L);
    }

    private static void setsOfThirty() {
        check.promise("sets with bits of none such");
        RodDips x = new RodDips();
        Check.plan(x, "hit 99");
        Check.law(x, "near 99");
        for (int tries = 0; tries <= 30; tries++) {
            int last = tries == 0 ? 0 : 1 << tries - 1;
            odds(x, 0, last, 0, 0, 1, 1);
            check.due("the bit behind the last of " + tries, x.odds(0, 1 << tries, 0, 0, 0), NO);
            check.due("with the last", x.odds(0, 1 << tries | last, 0, 0, 0), NO);
            check.due("the sign's bit", x.odds(0, MIN | last, 0, 0, 0), NO);
            check.due("bit 30", x.odds(0, 1 << 30 | last, 0, 0, 0), NO);
            check.due("all bits", x.odds(0, -1, 0, 0, 0), NO);
            check.due("fits of these", x.fits(0, last), Integer.bitCount(last));
            check.due("fits of one behind", x.fits(0, 1 << tries), -2);
            check.due("fits of the sign's bit", x.fits(0, MIN | last), -2);
            check.due("let of these", x.let(last), 1);
            check.due("let of one behind", x.let(1 << tries | last), -2);
            check.due("let of all bits", x.let(-1), -2);
            add(x, 0, 0, 0);
        }
    }

    private static void oddsRefused() {
        check.promise("odds: NO: plan, set, k, what, part; k 0 .. 9");
        RodDips x = new RodDips();
        check.due("no plan", x.odds(0, 0, 0, 0, 0), NO);
        Check.plan(x, "hit 0");
        add(x, 0, 0, 0);
        for (int n : new int[] {-1, 10, 11, MIN, MAX}) {
            check.due("plan " + n, x.odds(n, 1, 1, 0, 0), NO);
            check.due("set " + n, x.odds(0, n, 1, 0, 0), NO);
            check.due("k " + n, x.odds(0, 1, n, 0, 0), NO);
            check.due("k " + n + " exactly", x.odds(0, 1, n, 1, 0), NO);
            check.due("what " + n, x.odds(0, 1, 1, n, 0), NO);
            check.due("part " + n, x.odds(0, 1, 1, 0, n), NO);
        }
        check.due("plan 1", x.odds(1, 1, 1, 0, 0), NO);
        check.due("what 2", x.odds(0, 1, 1, 2, 0), NO);
        check.due("part 2", x.odds(0, 1, 1, 0, 2), NO);
        check.due("k 0", x.odds(0, 1, 0, 0, 1), 1);
        check.due("k 9", x.odds(0, 1, 9, 0, 1), 1);
    }

    private static void certainAndRare() {
        check.promise("As fractions in lowest terms");
        RodDips x = new RodDips();
        x.barn(100);
        for (int i = 0; i < 10; i++) add(x, 0, 0, 0);
        Check.plan(x, "hit 99");
        Check.plan(x, "hit 98");
        odds(x, 0, 511, 9, 0, 1, 1);
        odds(x, 0, 511, 8, 1, 0, 1);
        odds(x, 0, 511, 9, 1, 1, 1);
        // 99 of 100 each: all but nine, none of nine, all of nine.
        odds(x, 1, 511, 0, 1, 1, MOST);
        odds(x, 1, 511, 1, 0, MOST - 1, MOST);
        odds(x, 1, 511, 9, 0, 913517247483640899L, MOST);
        odds(x, 1, 3, 1, 1, 99, 5000);
        odds(x, 1, 3, 0, 0, 1, 1);
    }

    // ---- BEST, ALONE

    private static void bestOfAllSix() {
        check.promise("BEST of MEN: that some MAN (of all six) would have k or more HITS of his COUNTED TRIES");
        RodDips x = new RodDips();
        x.barn(2);
        for (int man = 0; man < 6; man++) add(x, man, 0, 0);
        Check.plan(x, "hit 0");
        Check.plan(x, "take m=5");
        Check.plan(x, "take m=0");
        Check.plan(x, "take t>9");
        best(x, 0, 0, 0, 1, 1);
        best(x, 0, 1, 0, 63, 64);
        best(x, 0, 2, 0, 0, 1);
        best(x, 0, 9, 0, 0, 1);
        best(x, 1, 1, 0, 1, 2);
        best(x, 2, 1, 0, 1, 2);
        best(x, 3, 0, 0, 1, 1);
        best(x, 3, 1, 0, 0, 1);
        best(x, 3, 9, 0, 0, 1);
        add(x, 5, 0, 0);
        best(x, 0, 2, 0, 1, 4);
        best(x, 0, 1, 0, 127, 128);
        best(new RodDips(), 0, 0, 0, NO, NO);
        RodDips empty = new RodDips();
        Check.plan(empty, "hit 0");
        best(empty, 0, 0, 0, 1, 1);
        best(empty, 0, 1, 0, 0, 1);
    }

    private static void bestNineCounted() {
        check.promise("BEST: 9 COUNTED ones in all at most");
        RodDips x = new RodDips();
        x.barn(100);
        for (int i = 0; i < 12; i++) add(x, i % 6, 5, 5);
        Check.plan(x, "hit 0");
        Check.plan(x, "take t<9");
        Check.plan(x, "take t<10");
        Check.plan(x, "take t<9;hit 99");
        for (int part = 0; part < 2; part++) {
            check.due("twelve", x.best(0, 1, 0, part), NO);
            check.due("ten", x.best(2, 1, 0, part), NO);
            check.due("ten, k 0", x.best(2, 0, 0, part), NO);
        }
        // Three men have two, three have one: 1 less 0.9999 to the power of 3.
        best(x, 1, 2, 0, 299970001L, 1000000000000L);
        best(x, 1, 3, 0, 0, 1);
        best(x, 1, 0, 0, 1, 1);
        best(x, 3, 2, 0, 1, 1);
        best(x, 3, 3, 0, 0, 1);
        best(x, 1, 1, 0, 86482752516359101L, MOST);
    }

    private static void aloneTheMostHits() {
        check.promise("ALONE: of the MAN with the most HITS of those that have COUNTED TRIES (of several the least)");
        RodDips x = new RodDips();
        x.barn(4);
        add(x, 1, 0, 3);
        add(x, 1, 0, 0);
        add(x, 2, 1, 1);
        add(x, 4, 2, 2);
        add(x, 4, 0, 3);
        add(x, 4, 0, 3);
        add(x, 5, 0, 3);
        Check.plan(x, "hit 0");
        // One hit each of men 1, 2, 4: man 1, of two tries.
        best(x, 0, 1, 1, 7, 16);
        best(x, 0, 2, 1, 1, 16);
        best(x, 0, 3, 1, 0, 1);
        best(x, 0, 0, 1, 1, 1);
        Check.plan(x, "drop m=1");
        best(x, 1, 1, 1, 1, 4);
        best(x, 1, 2, 1, 0, 1);
        Check.plan(x, "take m>3");
        best(x, 2, 3, 1, 1, 64);
        Check.plan(x, "take m=5;take t=0");
        // No hits of either: man 1, of one try; man 0 has none that are counted.
        best(x, 3, 1, 1, 1, 4);
        best(x, 3, 2, 1, 0, 1);
        add(x, 4, 3, 3);
        best(x, 0, 4, 1, 1, 256);
        Check.plan(x, "take m=5");
        best(x, 4, 1, 1, 1, 4);
    }

    private static void aloneNine() {
        check.promise("ALONE: more than 9 COUNTED ones of his");
        RodDips x = new RodDips();
        x.barn(2);
        for (int i = 0; i < 9; i++) add(x, 2, 0, 0);
        for (int i = 0; i < 10; i++) add(x, 3, 0, 1);
        add(x, 1, 0, 0);
        Check.plan(x, "hit 0");
        Check.plan(x, "take m=3");
        Check.plan(x, "take m<3;take t=9");
        best(x, 0, 9, 1, 1, 512);
        check.due("nineteen in all", x.best(0, 1, 0, 0), NO);
        for (int part = 0; part < 2; part++) check.due("ten of his", x.best(1, 1, 1, part), NO);
        best(x, 2, 8, 1, 5, 256);
        add(x, 2, 0, 0);
        for (int part = 0; part < 2; part++) check.due("ten of the best", x.best(0, 9, 1, part), NO);
    }

    private static void bestRefused() {
        check.promise("best: NO: plan, k, what, part; ALONE: nobody has COUNTED TRIES; k 0 .. 9");
        RodDips x = new RodDips();
        for (int what = 0; what < 2; what++) check.due("no plan", x.best(0, 0, what, 0), NO);
        Check.plan(x, "hit 0");
        Check.plan(x, "take t=9");
        for (int k = 0; k < 10; k++) {
            for (int part = 0; part < 2; part++) check.due("nobody alone without tries", x.best(0, k, 1, part), NO);
        }
        add(x, 0, 0, 0);
        for (int k = 0; k < 10; k++) check.due("nobody alone without counted ones", x.best(1, k, 1, 1), NO);
        for (int n : new int[] {-1, 10, 11, MIN, MAX}) {
            for (int what = 0; what < 2; what++) {
                check.due("plan " + n, x.best(n, 1, what, 0), NO);
                check.due("k " + n, x.best(0, n, what, 0), NO);
                check.due("part " + n, x.best(0, 1, what, n), NO);
            }
            check.due("what " + n, x.best(0, 1, n, 0), NO);
        }
        for (int what = 0; what < 2; what++) {
            check.due("plan 2", x.best(2, 1, what, 0), NO);
            check.due("part 2", x.best(0, 1, what, 2), NO);
            best(x, 0, 0, what, 1, 1);
            best(x, 0, 1, what, 1, 10);
            best(x, 0, 9, what, 0, 1);
        }
        check.due("what 2", x.best(0, 1, 2, 0), NO);
    }

    // ---- FIXED, BEATS, OTHERWISE

    private static void fixedLeast() {
        check.promise("FIXED: the place with the least sum of NEARS (of several the least)");
        RodDips x = new RodDips();
        x.barn(100);
        int[][] pipes = {{0}, {99}, {0, 99}, {98, 99}, {99, 3, 50}, {70, 10, 20, 90}};
        int[] want = {0, 99, 0, 98, 50, 20};
        for (int man = 0; man < 6; man++) for (int pipe : pipes[man]) add(x, man, pipe, 7);
        Check.plan(x, "hit 0");
        Check.plan(x, "drop t=2;drop p=3");
        Check.plan(x, "drop t=2");
        for (int man = 0; man < 6; man++) check.due("fixed(0, " + man + ")", x.fixed(0, man), want[man]);
        check.due("of the counted one", x.fixed(1, 2), 99);
        RodDips y = new RodDips();
        y.barn(2);
        add(y, 0, 1, 0);
        add(y, 0, 0, 0);
        add(y, 1, 1, 0);
        Check.plan(y, "hit 0");
        check.due("one of each of two places", y.fixed(0, 0), 0);
        check.due("the last of two places", y.fixed(0, 1), 1);
    }

    private static void fixedRefused() {
        check.promise("fixed: -5: he has no COUNTED TRIES. NONE");
        RodDips x = new RodDips();
        check.due("no plan", x.fixed(0, 0), NONE);
        Check.plan(x, "drop t=0");
        for (int man = 0; man < 6; man++) check.due("no tries at all of " + man, x.fixed(0, man), NOTHING);
        add(x, 0, 5, 5);
        add(x, 1, 5, 5);
        check.due("his is dropped", x.fixed(0, 0), NOTHING);
        check.due("another's is not", x.fixed(0, 1), 5);
        check.due("he has none", x.fixed(0, 5), NOTHING);
        for (int n : new int[] {-1, 6, MIN, MAX}) {
            check.due("plan " + n, x.fixed(n, 1), NONE);
            check.due("man " + n, x.fixed(0, n), NONE);
        }
        check.due("plan 1", x.fixed(1, 1), NONE);
    }

    private static void theMiddle() {
        check.promise("THE MIDDLE: PLACES by 2 (cut). BEATS: whose sum of NEARS is less");
        int[] places = {2, 3, 10, 11, 99, 100};
        int[] middles = {1, 1, 5, 5, 49, 50};
        for (int i = 0; i < places.length; i++) {
            RodDips x = new RodDips();
            x.barn(places[i]);
            int middle = middles[i];
            // At the middle nobody is less; beside it who says just the pipe is.
            add(x, 0, middle, middle);
            add(x, 1, middle - 1, middle - 1);
            add(x, 2, middle - 1, middle);
            add(x, 5, Math.min(middle + 1, places[i] - 1), Math.min(middle + 1, places[i] - 1));
            Check.plan(x, "hit 0");
            Check.plan(x, "drop m=1");
            check.due("beats of " + places[i], x.beats(0), i == 0 ? 0b000010 : 0b100010);
            check.due("without counted ones of man 1", x.beats(1), i == 0 ? 0 : 0b100000);
        }
        RodDips x = new RodDips();
        check.due("no plan", x.beats(0), NONE);
        Check.plan(x, "hit 0");
        check.due("no tries", x.beats(0), 0);
        for (int plan : new int[] {-1, 1, 5, MIN, MAX}) check.due("beats(" + plan + ")", x.beats(plan), NONE);
        RodDips y = new RodDips();
        add(y, 0, 0, 5);
        add(y, 1, 0, 4);
        Check.plan(y, "hit 0");
        check.due("as far as the middle is not less", y.beats(0), 0b000010);
        sumsOfBeats();
    }

    private static void sumsOfBeats() {
        RodDips x = new RodDips();
        add(x, 0, 0, 4);
        add(x, 0, 9, 5);
        add(x, 1, 0, 4);
        add(x, 1, 9, 4);
        add(x, 1, 9, 6);
        add(x, 2, 0, 4);
        add(x, 2, 9, 4);
        Check.plan(x, "hit 0");
        // Nine places off the middle of man 0: 8 against 9; man 1: 12 against 13; man 2: 9 against 9.
        check.due("beats by one", x.beats(0), 0b000011);
    }

    private static void otherwiseLeast() {
        check.promise("OTHERWISE: the place with which the most would be HITS (of several the least)");
        RodDips x = new RodDips();
        x.barn(100);
        add(x, 0, 99, 0);
        Check.plan(x, "hit 0");
        Check.plan(x, "hit 1");
        Check.plan(x, "hit 98");
        Check.plan(x, "hit 99");
        Check.plan(x, "hit 3;drop t=1;drop t=2");
        int[] want = {99, 98, 1, 0};
        for (int plan = 0; plan < 4; plan++) check.due("of one, otherwise(" + plan + ")", x.otherwise(plan), want[plan]);
        add(x, 1, 0, 0);
        add(x, 2, 2, 0);
        int[] then = {0, 1, 1, 0};
        for (int plan = 0; plan < 4; plan++) check.due("of three, otherwise(" + plan + ")", x.otherwise(plan), then[plan]);
        add(x, 3, 99, 0);
        // Two at 99, one at 0, one at 2: by hit 1 there are two places with two hits.
        int[] last = {99, 1, 1, 0};
        for (int plan = 0; plan < 4; plan++) check.due("of four, otherwise(" + plan + ")", x.otherwise(plan), last[plan]);
        check.due("of counted ones", x.otherwise(4), 96);
        RodDips y = new RodDips();
        add(y, 0, 5, 0);
        add(y, 1, 5, 0);
        add(y, 2, 6, 0);
        Check.plan(y, "hit 1");
        Check.plan(y, "hit 3");
        check.due("nearer ones are hits, too", y.otherwise(0), 5);
        check.due("nearer ones are hits, too", y.otherwise(1), 3);
    }

    private static void otherwiseRefused() {
        check.promise("otherwise: -5: there are no COUNTED TRIES. NONE");
        RodDips x = new RodDips();
        check.due("no plan", x.otherwise(0), NONE);
        Check.plan(x, "drop t=0");
        check.due("no tries", x.otherwise(0), NOTHING);
        add(x, 0, 5, 5);
        check.due("no counted ones", x.otherwise(0), NOTHING);
        add(x, 0, 5, 5);
        check.due("one", x.otherwise(0), 5);
        for (int plan : new int[] {-1, 1, 5, MIN, MAX}) check.due("otherwise(" + plan + ")", x.otherwise(plan), NONE);
    }

    // ---- AFTERWARDS

    private static void afterwardsLeast() {
        check.promise("AFTERWARDS: of all hits 0 .. 9 the one by which ODDS are least (of several the least hit)");
        RodDips x = new RodDips();
        x.barn(100);
        Check.plan(x, "hit 50;need 9");
        for (int near = 0; near < 12; near++) {
            x.image();
            // Of one try it is its own NEAR; by 9 it's no hit yet if it is 10 off, and then all odds are 1.
            add(x, near % 6, 50, 50 + near);
            check.due("of one that is " + near + " off", x.afterwards(0, near % 6), near <= 9 ? near : 0);
            x.undo();
        }
        // One of two by hit 0 is 0.19, both by hit 1 (3 of 10 each) 0.09.
        RodDips y = new RodDips();
        Check.plan(y, "hit 0");
        add(y, 0, 5, 5);
        add(y, 0, 5, 4);
        check.due("both by hit 1", y.afterwards(0, 0), 1);
        add(y, 1, 5, 5);
        add(y, 1, 5, 3);
        // One by hit 0 is 0.19, one by hit 1 more, both by hit 2 (5 of 10 each) 0.25.
        check.due("one by hit 0", y.afterwards(0, 1), 0);
        equalOdds();
    }

    private static void equalOdds() {
        // In a barn of two all places are near by hit 1, so each hit from 1 on has odds of 1.
        RodDips x = new RodDips();
        x.barn(2);
        Check.plan(x, "hit 9");
        add(x, 0, 0, 1);
        check.due("all of them 1", x.afterwards(0, 0), 0);
        add(x, 1, 0, 0);
        check.due("a half by hit 0", x.afterwards(0, 1), 0);
        // Two tries that are 0 and 2 off, said at the side: one of two by hit 0 (1/5 each) is 9/25, both by hit 2 (3/5 each) too.
        RodDips y = new RodDips();
        y.barn(5);
        Check.plan(y, "hit 0");
        add(y, 0, 0, 0);
        add(y, 0, 2, 0);
        check.due("of two the least", y.afterwards(0, 0), 0);
        add(y, 1, 3, 0);
        check.due("4/5 by hit 3", y.afterwards(0, 1), 3);
        add(y, 2, 0, 4);
        check.due("never less than 1", y.afterwards(0, 2), 0);
    }

    private static void afterwardsNine() {
        check.promise("AFTERWARDS: -5: he has no COUNTED TRIES, or more than 9");
        RodDips x = new RodDips();
        Check.plan(x, "drop t>8&t<20");
        Check.plan(x, "hit 0");
        for (int man = 0; man < 6; man++) check.due("no tries of " + man, x.afterwards(0, man), NOTHING);
        for (int i = 0; i < 9; i++) add(x, 2, 5, 6);
        check.due("nine", x.afterwards(0, 2), 1);
        check.due("nine", x.afterwards(1, 2), 1);
        add(x, 2, 5, 6);
        check.due("nine of ten", x.afterwards(0, 2), 1);
        check.due("ten", x.afterwards(1, 2), NOTHING);
        for (int i = 0; i < 3; i++) add(x, 3, 5, 6);
        check.due("none of three", x.afterwards(0, 3), NOTHING);
        check.due("three, beside ten of another", x.afterwards(1, 3), 1);
        for (int i = 0; i < 17; i++) add(x, 2, 5, 6);
        check.due("all of a man", x.afterwards(1, 2), NOTHING);
        check.due("none", x.afterwards(1, 5), NOTHING);
    }

    private static void afterwardsRefused() {
        check.promise("afterwards: NONE");
        RodDips x = new RodDips();
        check.due("no plan", x.afterwards(0, 0), NONE);
        Check.plan(x, "hit 0");
        add(x, 0, 0, 0);
        for (int n : new int[] {-1, 6, 7, MIN, MAX}) {
            check.due("plan " + n, x.afterwards(n, 0), NONE);
            check.due("man " + n, x.afterwards(0, n), NONE);
        }
        check.due("plan 1", x.afterwards(1, 0), NONE);
        check.due("man 5", x.afterwards(0, 5), NOTHING);
        check.due("man 0", x.afterwards(0, 0), 0);
    }
}
