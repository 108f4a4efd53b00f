/** Each sentence of paragraph 4 up to TWO PAPERS that names a boundary: both of its sides. */
public final class EdgesOfFairTest {
    private static final int NONE = -1, BAD = -2, NOTHING = -5;
    private static final int MIN = Integer.MIN_VALUE, MAX = Integer.MAX_VALUE;
    private static final long NO = Long.MIN_VALUE;
    private static final Check check = new Check();

    public static void main(String[] args) {
        fairAtMost();
        fairFewestTriesLeastNeed();
        fairOneToSix();
        fairAtTheSides();
        fairRefused();
        excusesWhats();
        openOneLeftIn();
        openShares();
        excusesRefused();
        fields();
        fieldsRefused();
        holesNoMoreThan();
        holesRefused();
        rodMoreThan();
        rodRefused();
        papersOfBits();
        papersRefused();
        check.end();
    }

    // ---- FAIR

    private static void fairAtMost() {
        check.promise("FAIR: odds of at most a of 100, odds of at most b of 100");
        RodDips x = new RodDips();
        // One try, need 1: missed with 100 less f of 100, taken with 1 of 10.
        check.due("a just enough", x.fair(0, 0, 70, 30, 10), 11);
        // Of three fewer than 2 by f 70: 0.216.
        check.due("a too little", x.fair(0, 0, 70, 29, 10), 32);
        check.due("b just enough", x.fair(0, 0, 100, 0, 10), 11);
        check.due("b too little", x.fair(0, 0, 100, 0, 9), 22);
        // Two tries, need 2: taken with 1 of 100; b of 0 is never enough, as nobody is taken with 0.
        check.due("b 1", x.fair(0, 0, 100, 0, 1), 22);
        check.due("b 0", x.fair(0, 0, 100, 0, 0), NOTHING);
        check.due("a 0 by f 100", x.fair(0, 0, 100, 0, 10), 11);
        check.due("a 0 by f 99", x.fair(0, 0, 99, 0, 99), NOTHING);
        check.due("a 1 by f 99", x.fair(0, 0, 99, 1, 10), 11);
        // Of two by f 90: none with 1 of 100, fewer than 2 with 19 of 100.
        check.due("19 of 100", x.fair(0, 0, 90, 19, 1), 22);
        // Of three by f 90: fewer than 2 with 0.028; taken with 0.028 by 1 of 10 each.
        check.due("18 of 100", x.fair(0, 0, 90, 18, 3), 32);
        check.due("0.028 is no more than 3 of 100", x.fair(0, 0, 90, 3, 3), 32);
        // Of four by f 90: fewer than 2 with 0.0037, taken with 0.0523; need 3: 0.0523, 0.0037.
        check.due("0.028 is more than 2 of 100", x.fair(0, 0, 90, 2, 6), 42);
        check.due("0.0523 is no more than 6 of 100", x.fair(0, 0, 90, 6, 1), 43);
        check.due("f 0 by a 100", x.fair(0, 0, 0, 100, 10), 11);
        check.due("f 0 by a 99", x.fair(0, 0, 0, 99, 10), NOTHING);
    }

    private static void fairFewestTriesLeastNeed() {
        check.promise("FAIR: the fewest TRIES t, by some need k (0 .. t, the least such)");
        RodDips x = new RodDips();
        check.due("need 0 by b 100", x.fair(0, 0, 0, 0, 100), 10);
        check.due("need 0 by b 99", x.fair(0, 0, 0, 0, 99), NOTHING);
        check.due("all is well", x.fair(0, 0, 100, 100, 100), 10);
        check.due("need 1 and 2 by f 100: the least", x.fair(0, 0, 100, 0, 1), 22);
        // With hit 9 at the side all is a hit by chance: only need 0, and that by b 100 alone.
        check.due("who doesn't feel always hits", x.fair(9, 0, 100, 0, 99), NOTHING);
        check.due("and may", x.fair(9, 0, 100, 0, 100), 10);
        // By halves (hit 4 at the side): of t all with 1 of 2 to the power of t.
        int[] b = {50, 25, 13, 7, 4, 2};
        for (int t = 1; t <= 6; t++) {
            check.due("all of " + t, x.fair(4, 0, 100, 0, b[t - 1]), 11 * t);
            check.due("by one less", x.fair(4, 0, 100, 0, b[t - 1] - 1), t == 6 ? NOTHING : 11 * (t + 1));
        }
    }

    private static void fairOneToSix() {
        check.promise("FAIR: TRIES t (1 .. 6); -5: none");
        RodDips x = new RodDips();
        x.barn(2);
        // Halves: six of six with 1 of 64, which is over 1 of 100.
        check.due("six of six", x.fair(0, 0, 100, 0, 2), 66);
        check.due("not even these", x.fair(0, 0, 100, 0, 1), NOTHING);
        check.due("five of five", x.fair(0, 0, 100, 0, 4), 55);
        check.due("who feels hits in half of his", x.fair(0, 0, 50, 49, 49), NOTHING);
        check.due("by halves", x.fair(0, 0, 50, 50, 50), 11);
    }

    private static void fairAtTheSides() {
        check.promise("FAIR: of a BARN, a hit h (0 .. 99) and a place s");
        RodDips x = new RodDips();
        x.barn(100);
        check.due("one of a hundred", x.fair(0, 0, 100, 0, 1), 11);
        check.due("one of a hundred at the end", x.fair(0, 99, 100, 0, 1), 11);
        check.due("two at the side", x.fair(1, 0, 100, 0, 2), 11);
        check.due("two at the end", x.fair(1, 99, 100, 0, 2), 11);
        check.due("three beside", x.fair(1, 1, 100, 0, 2), 22);
        check.due("three beside", x.fair(1, 98, 100, 0, 3), 11);
        check.due("hit 98 at the side", x.fair(98, 0, 100, 0, 99), 11);
        check.due("hit 99 at the side", x.fair(99, 0, 100, 0, 99), NOTHING);
        check.due("hit 98 beside it", x.fair(98, 1, 100, 0, 99), NOTHING);
        check.due("hit 49 in the middle", x.fair(49, 50, 100, 0, 99), 11);
        check.due("hit 50 in the middle", x.fair(50, 50, 100, 0, 99), NOTHING);
    }

    private static void fairRefused() {
        check.promise("fair: NONE: place; BAD: hit (0 .. 99), f, a, b (0 .. 100)");
        RodDips x = new RodDips();
        for (int n : new int[] {-1, 10, 11, MIN, MAX}) {
            check.due("place " + n, x.fair(0, n, 0, 0, 100), NONE);
            check.due("NONE is told ahead of BAD, hit", x.fair(100, n, 0, 0, 100), NONE);
            check.due("NONE is told ahead of BAD, f", x.fair(0, n, 101, 0, 100), NONE);
            check.due("NONE is told ahead of BAD, a", x.fair(0, n, 0, -1, 100), NONE);
            check.due("NONE is told ahead of BAD, b", x.fair(0, n, 0, 0, 101), NONE);
        }
        for (int n : new int[] {-1, 101, 102, 1000, MIN, MAX}) {
            check.due("hit " + n, x.fair(n, 0, 0, 0, 100), BAD);
            check.due("f " + n, x.fair(0, 0, n, 0, 100), BAD);
            check.due("a " + n, x.fair(0, 0, 0, n, 100), BAD);
            check.due("b " + n, x.fair(0, 0, 0, 0, n), BAD);
        }
        check.due("hit 100", x.fair(100, 0, 0, 0, 100), BAD);
        check.due("hit 99", x.fair(99, 9, 0, 0, 100), 10);
        check.due("f, a, b 100", x.fair(0, 9, 100, 100, 100), 10);
        check.due("f, a, b 0", x.fair(0, 9, 0, 0, 0), NOTHING);
    }

    // ---- EXCUSES

    /** Of man 0 hits 0 and 3, of man 1 just misses, of man 5 just hits; by the plan 1 these of man 0 are not counted. */
    private static RodDips excusing() {
        RodDips x = new RodDips();
        int[][] tries = {{0, 5}, {0, 7}, {1, 0}, {0, 4}, {5, 5}, {0, 9}, {5, 6}};
        for (int[] one : tries) x.tryout(one[0], 0, 0, 5, one[1]);
        Check.plan(x, "hit 1");
        Check.plan(x, "hit 1;drop m=0&n<2");
        Check.plan(x, "drop m<9");
        return x;
    }

    private static void excusesWhats() {
        check.promise("EXCUSES: COUNTED TRIES that are HITS (what 0), and of those not EXCUSED after (1)");
        RodDips x = excusing();
        int[] due = {0, 2, 1, 0, 2, 0, 3, 0, 4, 0, 5, 2};
        for (int i = 0; i < due.length; i += 2) {
            check.due("hits of man " + due[i], x.excuses(0, due[i], 0, 0), due[i + 1]);
            check.due("not excused of man " + due[i], x.excuses(0, due[i], 1, 100), due[i + 1]);
        }
        check.due("not counted", x.excuses(1, 0, 0, 0), 0);
        x.excuse(0, 1);
        x.excuse(4, 1);
        check.due("one excused before", x.excuses(0, 0, 1, 0), 2);
        x.excuse(0, 2);
        check.due("the first excused after", x.excuses(0, 0, 1, 0), 1);
        check.due("it is a hit still", x.excuses(0, 0, 0, 0), 2);
        x.excuse(1, 2);
        check.due("a miss excused after", x.excuses(0, 0, 1, 0), 1);
        x.excuse(3, 2);
        check.due("all excused after", x.excuses(0, 0, 1, 0), 0);
        x.excuse(6, 2);
        check.due("the last excused after", x.excuses(0, 5, 1, 0), 1);
        x.excuse(6, 0);
        check.due("no longer", x.excuses(0, 5, 1, 0), 2);
    }

    private static void openOneLeftIn() {
        check.promise("OPEN: one at least being left in (-5: by none)");
        RodDips x = excusing();
        for (int share = 0; share <= 100; share++) {
            check.due("misses alone by " + share, x.excuses(0, 1, 2, share), share == 0 ? 0 : NOTHING);
            check.due("hits alone by " + share, x.excuses(0, 5, 2, share), 0);
            check.due("no tries by " + share, x.excuses(0, 3, 2, share), NOTHING);
            check.due("no counted ones by " + share, x.excuses(2, 0, 2, share), NOTHING);
        }
        check.due("two misses by 0", x.excuses(1, 0, 2, 0), 0);
        check.due("two misses by 1", x.excuses(1, 0, 2, 1), NOTHING);
    }

    private static void openShares() {
        check.promise("OPEN: HITS times 100 are no less than a share times all that are left in");
        RodDips x = new RodDips();
        // Two hits of seven: 200 by 7, 6, 5, 4, 3, 2 are 28.6, 33.3, 40, 50, 66.7, 100.
        for (int i = 0; i < 7; i++) x.tryout(4, 0, 0, 5, i < 2 ? 5 : 9);
        Check.plan(x, "hit 0");
        int[] last = {28, 33, 40, 50, 66, 100};
        int share = 0;
        for (int out = 0; out < 6; out++) {
            for (; share <= last[out]; share++) check.due("open by " + share, x.excuses(0, 4, 2, share), out);
        }
        RodDips y = new RodDips();
        for (int i = 0; i < 30; i++) y.tryout(2, 0, 0, 5, i < 29 ? 9 : 5);
        Check.plan(y, "hit 0");
        check.due("one of thirty by 3", y.excuses(0, 2, 2, 3), 0);
        check.due("one of thirty by 4", y.excuses(0, 2, 2, 4), 5);
        check.due("one of thirty by 50", y.excuses(0, 2, 2, 50), 28);
        check.due("one of thirty by 51", y.excuses(0, 2, 2, 51), 29);
        check.due("one of thirty by 100", y.excuses(0, 2, 2, 100), 29);
    }

    private static void excusesRefused() {
        check.promise("excuses: NONE: plan, man, what; BAD: share (0 .. 100; looked at with what 0, 1, too)");
        RodDips x = excusing();
        for (int what = 0; what < 3; what++) {
            for (int n : new int[] {-1, 101, 102, MIN, MAX}) {
                check.due("share " + n + " with what " + what, x.excuses(0, 0, what, n), BAD);
                check.due("of a man without tries", x.excuses(0, 3, what, n), BAD);
                check.due("NONE is told ahead of BAD, plan", x.excuses(3, 0, what, n), NONE);
                check.due("NONE is told ahead of BAD, man", x.excuses(0, 6, what, n), NONE);
                check.due("NONE is told ahead of BAD, what", x.excuses(0, 0, what + 3, n), NONE);
            }
            for (int n : new int[] {-1, 3, 5, MIN, MAX}) check.due("plan " + n, x.excuses(n, 0, what, 0), NONE);
            for (int n : new int[] {-1, 6, 7, MIN, MAX}) check.due("man " + n, x.excuses(0, n, what, 0), NONE);
        }
        for (int n : new int[] {-1, 3, 4, MIN, MAX}) check.due("what " + n, x.excuses(0, 0, n, 0), NONE);
        check.due("share 0", x.excuses(0, 0, 0, 0), 2);
        check.due("share 100", x.excuses(0, 0, 0, 100), 2);
    }

    // ---- FIELDS

    private static void field(int c, int n, long above, long below) {
        RodDips x = new RodDips();
        check.dueOf("field(" + c + ", " + n + ")", x.field(c, n, 0), x.field(c, n, 1), above, below);
    }

    private static void fields() {
        check.promise("FIELDS: water in c of 1000 places (0 .. 1000), n holes (0 .. 5)");
        for (int c : new int[] {0, 1, 500, 999, 1000}) field(c, 0, 1, 1);
        for (int n = 1; n <= 5; n++) {
            field(0, n, 0, 1);
            field(1000, n, 1, 1);
        }
        field(1, 1, 1, 1000);
        field(1, 5, 1, 1000000000000000L);
        field(2, 1, 1, 500);
        field(2, 5, 1, 31250000000000L);
        field(999, 1, 999, 1000);
        field(999, 5, 995009990004999L, 1000000000000000L);
        field(500, 5, 1, 32);
        field(800, 3, 64, 125);
    }

    private static void fieldsRefused() {
        check.promise("field: NO: c, n, part");
        RodDips x = new RodDips();
        for (int n = 0; n <= 5; n++) {
            for (int part = 0; part < 2; part++) {
                for (int c : new int[] {-1, 1001, -1000, MIN, MAX}) check.due("c " + c + ", n " + n, x.field(c, n, part), NO);
            }
        }
        for (int c : new int[] {0, 1, 999, 1000}) {
            for (int n : new int[] {-1, 6, 7, MIN, MAX}) check.due("c " + c + ", n " + n, x.field(c, n, 0), NO);
            for (int part : new int[] {-1, 2, MIN, MAX}) {
                check.due("part " + part, x.field(c, 0, part), NO);
                check.due("part " + part, x.field(c, 5, part), NO);
            }
        }
    }

    private static void holesNoMoreThan() {
        check.promise("SAYS: the fewest holes (0 .. 5) with which these are no more than 1 by q (1 .. 99); -5: none");
        RodDips x = new RodDips();
        for (int c : new int[] {0, 1, 500, 999, 1000}) check.due("holes(" + c + ", 1)", x.holes(c, 1), 0);
        for (int q = 2; q <= 99; q++) {
            check.due("holes(0, " + q + ")", x.holes(0, q), 1);
            check.due("holes(1000, " + q + ")", x.holes(1000, q), NOTHING);
            check.due("one hole by " + q, x.holes(1000 / q, q), 1);
            check.due("just over that by " + q, x.holes(1000 / q + 1, q), 2);
            check.due("halves by " + q, x.holes(500, q), q <= 2 ? 1 : q <= 4 ? 2 : q <= 8 ? 3 : q <= 16 ? 4 : q <= 32 ? 5 : NOTHING);
        }
        check.due("two holes, just", x.holes(200, 25), 2);
        check.due("two holes, not quite", x.holes(200, 26), 3);
        check.due("two holes, just over", x.holes(201, 25), 3);
        check.due("five holes of 398 by 99", x.holes(398, 99), 5);
        check.due("five holes of 399 by 99", x.holes(399, 99), NOTHING);
    }

    private static void holesRefused() {
        check.promise("holes: BAD");
        RodDips x = new RodDips();
        for (int c : new int[] {-1, 1001, -1000, MIN, MAX}) {
            check.due("c " + c, x.holes(c, 1), BAD);
            check.due("c " + c, x.holes(c, 99), BAD);
        }
        for (int q : new int[] {0, -1, 100, 101, MIN, MAX}) {
            check.due("q " + q, x.holes(0, q), BAD);
            check.due("q " + q, x.holes(1000, q), BAD);
        }
    }

    // ---- A ROD, TWO PAPERS

    private static void rodMoreThan() {
        check.promise("A ROD DIPS at TILT x (0 .. 99): grip times x, and lean, more than hold: the least TILT; -5: none");
        RodDips x = new RodDips();
        check.due("at 0: 1 over 0", x.rod(0, 1, 0), 0);
        check.due("at 0: 0 is not over 0", x.rod(0, 0, 0), NOTHING);
        check.due("at 0: not less than none", x.rod(9, 99, 98), 0);
        check.due("99 is not over 99", x.rod(9, 99, 99), 1);
        check.due("99 is over 98", x.rod(1, 0, 98), 99);
        check.due("99 is not over 99", x.rod(1, 0, 99), NOTHING);
        check.due("at the last", x.rod(9, 99, 989), 99);
        check.due("990 is not over 990", x.rod(9, 99, 990), NOTHING);
        check.due("of the largest hold", x.rod(9, 99, 999), NOTHING);
        check.due("792 is over 791", x.rod(9, -99, 791), 99);
        check.due("792 is not over 792", x.rod(9, -99, 792), NOTHING);
        check.due("no grip leans never more", x.rod(0, 99, 99), NOTHING);
        check.due("no grip", x.rod(0, -99, 0), NOTHING);
        check.due("just back", x.rod(1, -99, 0), NOTHING);
        check.due("just over", x.rod(1, -98, 0), 99);
        check.due("9 times 11 is 99", x.rod(9, -99, 0), 12);
    }

    private static void rodRefused() {
        check.promise("rod: BAD: grip 0 .. 9, lean -99 .. 99, hold 0 .. 999");
        RodDips x = new RodDips();
        for (int n : new int[] {-1, 10, 11, MIN, MAX}) check.due("grip " + n, x.rod(n, 0, 0), BAD);
        for (int n : new int[] {-100, 100, 101, MIN, MAX}) check.due("lean " + n, x.rod(0, n, 0), BAD);
        for (int n : new int[] {-1, 1000, 1001, MIN, MAX}) check.due("hold " + n, x.rod(0, 0, n), BAD);
        check.due("the least of all", x.rod(0, -99, 0), NOTHING);
        check.due("the most of all", x.rod(9, 99, 999), NOTHING);
    }

    private static void papersOfBits() {
        check.promise("TWO PAPERS: TRIES that just one COUNTS; that both COUNT and only one calls a HIT; MEN who PASS by just one");
        RodDips x = new RodDips();
        for (int i = 0; i < 30; i++) x.tryout(i % 6, i, 0, 0, i % 3);
        Check.plan(x, "hit 0");
        Check.plan(x, "take t=29;hit 99");
        Check.plan(x, "drop t<99;need 0");
        Check.plan(x, "hit 1;need 3");
        int all = (1 << 30) - 1;
        check.due("all but one", x.papers(0, 1, 0), all >> 1);
        check.due("the last alone is counted by both", x.papers(0, 1, 1), 1 << 29);
        check.due("all", x.papers(0, 2, 0), all);
        check.due("none by both", x.papers(0, 2, 1), 0);
        // By hit 0 pass the men 0 and 3; by need 0 all do.
        check.due("men", x.papers(0, 2, 2), 0b110110);
        check.due("men, turned", x.papers(2, 0, 2), 0b110110);
        check.due("none", x.papers(0, 3, 0), 0);
        // Of try i it is i % 3 to the pipe: by hit 1, but not by hit 0.
        check.due("every third", x.papers(0, 3, 1), 0x12492492);
        check.due("men by one", x.papers(0, 3, 2), 0b010010);
        for (int plan = 0; plan < 4; plan++) for (int what = 0; what < 3; what++) check.due("twice the same", x.papers(plan, plan, what), 0);
        RodDips y = new RodDips();
        Check.plan(y, "need 0");
        Check.plan(y, "need 1");
        for (int what = 0; what < 2; what++) check.due("without tries", y.papers(0, 1, what), 0);
        check.due("men without tries", y.papers(0, 1, 2), 63);
    }

    private static void papersRefused() {
        check.promise("papers: NONE");
        RodDips x = new RodDips();
        for (int what = 0; what < 3; what++) check.due("no plans", x.papers(0, 0, what), NONE);
        Check.plan(x, "hit 0");
        for (int n : new int[] {-1, 1, 5, MIN, MAX}) {
            for (int what = 0; what < 3; what++) {
                check.due("a " + n, x.papers(n, 0, what), NONE);
                check.due("b " + n, x.papers(0, n, what), NONE);
            }
        }
        for (int n : new int[] {-1, 3, 4, MIN, MAX}) check.due("what " + n, x.papers(0, 0, n), NONE);
        check.due("what 0", x.papers(0, 0, 0), 0);
        check.due("what 2", x.papers(0, 0, 2), 0);
    }
}
