/** Promises 10 to 16: chance, odds, best, fixed, beats, otherwise, afterwards. */
public final class OddsTest {
    private static final Check check = new Check();
    private static final long NO = RodDips.NO;

    public static void main(String[] args) {
        chance();
        odds();
        mostOdds();
        best();
        bestLimits();
        fixed();
        beats();
        otherwise();
        afterwards();
        check.end();
    }

    /** A try of a man with its pipe and its said place. */
    private static void add(RodDips x, int man, int pipe, int said) {
        x.tryout(man, 0, 0, pipe, said);
    }

    private static void chance() {
        check.promise("10");
        RodDips x = new RodDips();
        add(x, 0, 0, 0);
        add(x, 0, 0, 5);
        add(x, 0, 0, 9);
        Check.plan(x, "hit 0");
        Check.plan(x, "hit 2");
        Check.plan(x, "hit 7");
        Check.plan(x, "hit 99");
        long[][] want = {{1, 10}, {1, 10}, {1, 10}, {3, 10}, {1, 2}, {3, 10}, {4, 5}, {1, 1}, {4, 5}, {1, 1}, {1, 1}, {1, 1}};
        for (int plan = 0; plan < 4; plan++) {
            for (int i = 0; i < 3; i++) {
                long[] due = want[plan * 3 + i];
                check.dueOf("chance(" + plan + ", " + i + ")", x.chance(plan, i, 0), x.chance(plan, i, 1), due[0], due[1]);
            }
        }
        check.due("plan 4", x.chance(4, 0, 0), NO);
        check.due("plan -1", x.chance(-1, 0, 0), NO);
        check.due("try 3", x.chance(0, 3, 0), NO);
        check.due("try -1", x.chance(0, -1, 0), NO);
        check.due("part 2", x.chance(0, 0, 2), NO);
        check.due("part -1", x.chance(0, 0, -1), NO);
    }

    private static void odds(RodDips x, int set, int k, int what, long above, long below) {
        String call = "odds(0, " + set + ", " + k + ", " + what + ")";
        check.dueOf(call, x.odds(0, set, k, what, 0), x.odds(0, set, k, what, 1), above, below);
    }

    private static void odds() {
        check.promise("11");
        RodDips x = new RodDips();
        x.barn(4);
        add(x, 0, 0, 0);
        add(x, 1, 0, 1);
        add(x, 2, 3, 3);
        Check.plan(x, "hit 1;take t>90");
        // The chances are 1/2, 3/4, 1/2, though none is counted.
        odds(x, 0, 0, 0, 1, 1);
        odds(x, 0, 1, 0, 0, 1);
        odds(x, 0, 0, 1, 1, 1);
        odds(x, 7, 0, 0, 1, 1);
        odds(x, 7, 1, 0, 15, 16);
        odds(x, 7, 2, 0, 5, 8);
        odds(x, 7, 3, 0, 3, 16);
        odds(x, 7, 4, 0, 0, 1);
        odds(x, 7, 0, 1, 1, 16);
        odds(x, 7, 1, 1, 5, 16);
        odds(x, 7, 2, 1, 7, 16);
        odds(x, 7, 3, 1, 3, 16);
        odds(x, 7, 9, 1, 0, 1);
        odds(x, 2, 1, 0, 3, 4);
        odds(x, 5, 2, 0, 1, 4);
        check.due("plan 1", x.odds(1, 7, 1, 0, 0), NO);
        check.due("plan -1", x.odds(-1, 7, 1, 0, 0), NO);
        check.due("set 8", x.odds(0, 8, 1, 0, 0), NO);
        check.due("set -1", x.odds(0, -1, 1, 0, 0), NO);
        check.due("set MIN", x.odds(0, Integer.MIN_VALUE, 1, 0, 0), NO);
        check.due("k -1", x.odds(0, 7, -1, 0, 0), NO);
        check.due("k 10", x.odds(0, 7, 10, 0, 0), NO);
        check.due("what 2", x.odds(0, 7, 1, 2, 0), NO);
        check.due("what -1", x.odds(0, 7, 1, -1, 0), NO);
        check.due("part 2", x.odds(0, 7, 1, 0, 2), NO);
        check.due("part -1", x.odds(0, 7, 1, 0, -1), NO);
    }

    private static void mostOdds() {
        RodDips x = new RodDips();
        x.barn(100);
        for (int i = 0; i < 30; i++) add(x, 0, 0, 1);
        Check.plan(x, "hit 0");
        odds(x, 511, 9, 0, 1, 1000000000000000000L);
        odds(x, 511, 1, 0, 86482752516359101L, 1000000000000000000L);
        odds(x, 511 << 21, 8, 1, 891, 1000000000000000000L);
        check.due("ten tries", x.odds(0, 1023, 1, 0, 0), NO);
        check.due("all tries", x.odds(0, (1 << 30) - 1, 1, 0, 0), NO);
        check.due("a bit of no try", x.odds(0, 1 << 30, 1, 0, 0), NO);
    }

    private static void best(RodDips x, int plan, int k, int what, long above, long below) {
        String call = "best(" + plan + ", " + k + ", " + what + ")";
        check.dueOf(call, x.best(plan, k, what, 0), x.best(plan, k, what, 1), above, below);
    }

    private static void best() {
        check.promise("12");
        RodDips x = new RodDips();
        x.barn(4);
        add(x, 1, 3, 0);
        add(x, 3, 0, 1);
        add(x, 3, 3, 3);
        add(x, 4, 2, 1);
        Check.plan(x, "hit 1");
        // Of man 1: 1/2; of man 3: 3/4, 1/2; of man 4: 3/4.
        best(x, 0, 0, 0, 1, 1);
        best(x, 0, 1, 0, 63, 64);
        best(x, 0, 2, 0, 3, 8);
        best(x, 0, 3, 0, 0, 1);
        best(x, 0, 1, 1, 7, 8);
        best(x, 0, 2, 1, 3, 8);
        best(x, 0, 0, 1, 1, 1);
        Check.plan(x, "hit 1;drop t=1");
        // Man 3 and man 4 have one hit each: the least of them.
        best(x, 1, 1, 1, 1, 2);
        Check.plan(x, "hit 0;take m=1;take m=4");
        // No hits at all: still the least with counted tries.
        best(x, 2, 1, 1, 1, 4);
        Check.plan(x, "take t>90");
        best(x, 3, 0, 0, 1, 1);
        best(x, 3, 1, 0, 0, 1);
        check.due("nobody alone", x.best(3, 0, 1, 0), NO);
        check.due("plan 4", x.best(4, 1, 0, 0), NO);
        check.due("k -1", x.best(0, -1, 0, 0), NO);
        check.due("k 10", x.best(0, 10, 0, 0), NO);
        check.due("k 10 alone", x.best(0, 10, 1, 0), NO);
        check.due("k -1 alone", x.best(0, -1, 1, 0), NO);
        check.due("what 2", x.best(0, 1, 2, 0), NO);
        check.due("what -1", x.best(0, 1, -1, 0), NO);
        check.due("part 2", x.best(0, 1, 0, 2), NO);
        check.due("part -1 alone", x.best(0, 1, 1, -1), NO);
    }

    private static void bestLimits() {
        RodDips x = new RodDips();
        x.barn(100);
        for (int i = 0; i < 9; i++) add(x, i % 6, 0, 1);
        add(x, 2, 0, 1);
        Check.plan(x, "drop t=9");
        best(x, 0, 1, 0, 86482752516359101L, 1000000000000000000L);
        Check.plan(x, "hit 0");
        check.due("ten counted ones", x.best(1, 1, 0, 0), NO);
        best(x, 1, 1, 1, 199, 10000);
        for (int i = 0; i < 9; i++) add(x, 5, 0, 0);
        Check.plan(x, "take t>9");
        best(x, 2, 9, 1, 1, 1000000000000000000L);
        add(x, 5, 3, 3);
        check.due("ten of his", x.best(2, 1, 1, 0), NO);
    }

    private static void fixed() {
        check.promise("13");
        RodDips x = new RodDips();
        add(x, 2, 9, 0);
        add(x, 2, 3, 0);
        add(x, 2, 4, 0);
        add(x, 1, 0, 0);
        add(x, 1, 8, 0);
        Check.plan(x, "drop m=0");
        Check.plan(x, "drop t=1");
        Check.plan(x, "drop t=3");
        check.due("of three", x.fixed(0, 2), 4);
        check.due("of several the least", x.fixed(0, 1), 0);
        check.due("of counted ones", x.fixed(1, 2), 4);
        check.due("of one", x.fixed(2, 1), 8);
        check.due("of none", x.fixed(0, 0), -5);
        add(x, 3, 1, 9);
        check.due("the place 1", x.fixed(0, 3), 1);
        add(x, 4, 9, 0);
        check.due("the last place", x.fixed(0, 4), 9);
        check.due("man 6", x.fixed(0, 6), -1);
        check.due("man -1", x.fixed(0, -1), -1);
        check.due("plan 3", x.fixed(3, 0), -1);
        check.due("plan -1", x.fixed(-1, 0), -1);
    }

    private static void beats() {
        check.promise("14");
        RodDips x = new RodDips();
        x.barn(11);
        add(x, 0, 0, 4);
        add(x, 0, 9, 6);
        add(x, 1, 5, 5);
        add(x, 2, 9, 10);
        add(x, 2, 6, 10);
        add(x, 3, 10, 0);
        Check.plan(x, "hit 0");
        Check.plan(x, "drop t=4");
        Check.plan(x, "drop m=2;drop t=0");
        // Man 0: 7 against 5 + 4; man 1: 0 against 0; man 2: 5 against 4 + 1; man 3: 10 against 5.
        check.due("of all", x.beats(0), 0b000001);
        check.due("but for one", x.beats(1), 0b000101);
        check.due("but for some", x.beats(2), 0b000001);
        Check.plan(x, "take m=3;take t=3");
        check.due("not the first man", x.beats(3), 0b000100);
        check.due("plan 4", x.beats(4), -1);
        check.due("plan -1", x.beats(-1), -1);
    }

    private static void otherwise() {
        check.promise("15");
        RodDips x = new RodDips();
        add(x, 0, 9, 0);
        add(x, 1, 9, 0);
        add(x, 2, 2, 0);
        add(x, 3, 4, 0);
        add(x, 4, 0, 0);
        Check.plan(x, "hit 0");
        Check.plan(x, "hit 1");
        Check.plan(x, "hit 2");
        Check.plan(x, "drop t<9");
        Check.plan(x, "hit 99;drop m=0");
        check.due("hit 0", x.otherwise(0), 9);
        check.due("hit 1", x.otherwise(1), 1);
        check.due("hit 2", x.otherwise(2), 2);
        check.due("of none", x.otherwise(3), -5);
        check.due("hit 99", x.otherwise(4), 0);
        check.due("plan 5", x.otherwise(5), -1);
        check.due("plan -1", x.otherwise(-1), -1);
    }

    private static void afterwards() {
        check.promise("16");
        RodDips x = new RodDips();
        x.barn(20);
        add(x, 0, 10, 12);
        add(x, 0, 10, 8);
        add(x, 0, 10, 0);
        add(x, 1, 10, 10);
        add(x, 2, 0, 19);
        add(x, 4, 3, 12);
        for (int i = 0; i < 9; i++) add(x, 3, 10, 9);
        Check.plan(x, "hit 5");
        Check.plan(x, "take m=3;take t=0");
        // By hit 2 two of three are hits: the odds are 1/4, 1/4, 3/20.
        check.due("two by two", x.afterwards(0, 0), 2);
        check.due("at once", x.afterwards(0, 1), 0);
        check.due("never: of several the least", x.afterwards(0, 2), 0);
        check.due("by nine at last", x.afterwards(0, 4), 9);
        check.due("nine of them", x.afterwards(0, 3), 1);
        add(x, 5, 9, 19);
        check.due("by ten it would be less", x.afterwards(0, 5), 0);
        check.due("of one", x.afterwards(1, 0), 2);
        check.due("of none", x.afterwards(1, 2), -5);
        check.due("his are not counted", x.afterwards(1, 5), -5);
        add(x, 3, 10, 9);
        check.due("ten of them", x.afterwards(0, 3), -5);
        check.due("man 6", x.afterwards(0, 6), -1);
        check.due("man -1", x.afterwards(0, -1), -1);
        check.due("plan 2", x.afterwards(2, 0), -1);
    }
}
