/** Promises 22 to 27: fair, excuses, field, holes, rod, papers. */
public final class FairTest {
    private static final Check check = new Check();
    private static final long NO = RodDips.NO;

    public static void main(String[] args) {
        fair();
        excuses();
        field();
        holes();
        rod();
        papers();
        check.end();
    }

    private static void fair() {
        check.promise("22");
        RodDips x = new RodDips();
        check.due("at once", x.fair(0, 0, 100, 0, 10), 11);
        check.due("just too much", x.fair(0, 0, 100, 0, 9), 22);
        check.due("just enough", x.fair(0, 0, 90, 10, 10), 11);
        check.due("need 0 of all", x.fair(0, 0, 0, 0, 100), 10);
        check.due("who feels nothing may be missed", x.fair(0, 0, 0, 100, 0), -5);
        check.due("all may be missed", x.fair(0, 0, 50, 100, 1), 22);
        // Of six by 4/5: 4 or more with 0.90112; by 3/10: 0.07047.
        check.due("six", x.fair(1, 5, 80, 10, 8), 64);
        check.due("a place at the side", x.fair(1, 0, 80, 10, 8), 53);
        check.due("never", x.fair(1, 5, 50, 10, 10), -5);
        check.due("place 10", x.fair(0, 10, 101, 0, 0), -1);
        check.due("place -1", x.fair(0, -1, 0, 0, 0), -1);
        check.due("hit 100", x.fair(100, 0, 0, 0, 0), -2);
        check.due("hit -1", x.fair(-1, 0, 0, 0, 0), -2);
        check.due("hit 99", x.fair(99, 0, 0, 0, 0), -5);
        for (int i = 2; i < 5; i++) {
            int f = i == 2 ? 1 : 0, a = i == 3 ? 1 : 0, b = i == 4 ? 1 : 0;
            check.due("over 100", x.fair(0, 0, 101 * f, 101 * a, 101 * b), -2);
            check.due("under 0", x.fair(0, 0, -f, -a, -b), -2);
        }
        x.barn(100);
        check.due("far in a large barn", x.fair(0, 99, 90, 1, 1), 42);
        check.due("place 99", x.fair(0, 99, 100, 0, 1), 11);
        // With a seventh try there would be a way.
        x = new RodDips();
        check.due("no seventh try", x.fair(2, 5, 90, 3, 23), -5);
    }

    private static RodDips tried() {
        RodDips x = new RodDips();
        x.tryout(0, 0, 0, 5, 5);
        x.tryout(0, 1, 0, 5, 6);
        x.tryout(0, 2, 0, 5, 9);
        x.tryout(1, 3, 0, 5, 1);
        x.tryout(0, 4, 0, 5, 0);
        x.tryout(1, 5, 0, 5, 5);
        x.tryout(2, 6, 0, 0, 9);
        x.excuse(0, 1);
        x.excuse(1, 2);
        x.excuse(2, 2);
        return x;
    }

    private static void excuses() {
        check.promise("23");
        RodDips x = tried();
        Check.plan(x, "hit 1");
        Check.plan(x, "hit 1;drop t=0;drop m=2");
        check.due("hits", x.excuses(0, 0, 0, 0), 2);
        check.due("hits not excused after", x.excuses(0, 0, 1, 0), 1);
        check.due("hits of counted ones", x.excuses(1, 0, 0, 0), 1);
        check.due("these not excused after", x.excuses(1, 0, 1, 0), 0);
        check.due("another man's", x.excuses(0, 1, 1, 0), 1);
        check.due("open by 50", x.excuses(0, 0, 2, 50), 0);
        check.due("open by 51", x.excuses(0, 0, 2, 51), 1);
        check.due("open by 66", x.excuses(0, 0, 2, 66), 1);
        check.due("open by 67", x.excuses(0, 0, 2, 67), 2);
        check.due("open by 100", x.excuses(0, 0, 2, 100), 2);
        check.due("open by 0", x.excuses(0, 0, 2, 0), 0);
        check.due("open of no hits", x.excuses(0, 2, 2, 1), -5);
        check.due("open of no hits by 0", x.excuses(0, 2, 2, 0), 0);
        check.due("open of none", x.excuses(1, 2, 2, 0), -5);
        check.due("man without tries", x.excuses(0, 3, 0, 0), 0);
        check.due("share 101", x.excuses(0, 0, 2, 101), -2);
        check.due("share 101 with what 0", x.excuses(0, 0, 0, 101), -2);
        check.due("share -1 with what 1", x.excuses(0, 0, 1, -1), -2);
        check.due("what 3", x.excuses(0, 0, 3, 101), -1);
        check.due("what -1", x.excuses(0, 0, -1, 0), -1);
        check.due("man 6", x.excuses(0, 6, 0, 101), -1);
        check.due("man -1", x.excuses(0, -1, 0, 0), -1);
        check.due("plan 2", x.excuses(2, 0, 0, 101), -1);
        check.due("plan -1", x.excuses(-1, 0, 0, 0), -1);
    }

    private static void field() {
        check.promise("24");
        RodDips x = new RodDips();
        int[][] want = {{0, 0, 1, 1}, {0, 1, 0, 1}, {0, 5, 0, 1}, {1000, 5, 1, 1}, {500, 5, 1, 32}, {950, 2, 361, 400}, {1, 1, 1, 1000}, {999, 1, 999, 1000}};
        for (int[] row : want) {
            check.dueOf("field(" + row[0] + ", " + row[1] + ")", x.field(row[0], row[1], 0), x.field(row[0], row[1], 1), row[2], row[3]);
        }
        check.dueOf("the longest", x.field(999, 5, 0), x.field(999, 5, 1), 995009990004999L, 1000000000000000L);
        check.due("c -1", x.field(-1, 1, 0), NO);
        check.due("c 1001", x.field(1001, 1, 0), NO);
        check.due("n -1", x.field(1, -1, 0), NO);
        check.due("n 6", x.field(1, 6, 0), NO);
        check.due("part 2", x.field(1, 1, 2), NO);
        check.due("part -1", x.field(1, 1, -1), NO);
    }

    private static void holes() {
        check.promise("25");
        RodDips x = new RodDips();
        check.due("1 by 1", x.holes(1000, 1), 0);
        check.due("always water", x.holes(1000, 2), -5);
        check.due("just", x.holes(500, 32), 5);
        check.due("just not", x.holes(500, 33), -5);
        check.due("two", x.holes(100, 99), 2);
        check.due("one", x.holes(20, 50), 1);
        check.due("none", x.holes(0, 1), 0);
        check.due("just over", x.holes(21, 50), 2);
        check.due("c -1", x.holes(-1, 1), -2);
        check.due("c 1001", x.holes(1001, 1), -2);
        check.due("q 0", x.holes(0, 0), -2);
        check.due("q 100", x.holes(0, 100), -2);
        check.due("q 99", x.holes(500, 99), -5);
    }

    private static void rod() {
        check.promise("26");
        RodDips x = new RodDips();
        check.due("at once", x.rod(5, 1, 0), 0);
        check.due("more, not as much", x.rod(5, 0, 0), 1);
        check.due("at the last", x.rod(1, 0, 98), 99);
        check.due("not at the last", x.rod(1, 0, 99), -5);
        check.due("leaning back", x.rod(9, -99, 0), 12);
        check.due("the most", x.rod(9, 99, 989), 99);
        check.due("over the most", x.rod(9, 99, 990), -5);
        check.due("no grip", x.rod(0, 5, 5), -5);
        check.due("grip -1", x.rod(-1, 0, 0), -2);
        check.due("grip 10", x.rod(10, 0, 0), -2);
        check.due("lean -100", x.rod(1, -100, 0), -2);
        check.due("lean 100", x.rod(1, 100, 0), -2);
        check.due("hold -1", x.rod(1, 0, -1), -2);
        check.due("hold 999", x.rod(9, 99, 999), -5);
        check.due("hold 1000", x.rod(1, 0, 1000), -2);
    }

    private static void papers() {
        check.promise("27");
        RodDips x = tried();
        Check.plan(x, "hit 1;drop t=0");
        Check.plan(x, "hit 4;drop t=5;need 3");
        check.due("just one counts", x.papers(0, 1, 0), 0b0100001);
        check.due("turned", x.papers(1, 0, 0), 0b0100001);
        // By the first of both the common ones are hits: 1; by the other 1, 2, 3.
        check.due("one calls a hit", x.papers(0, 1, 1), 0b0001100);
        check.due("turned", x.papers(1, 0, 1), 0b0001100);
        // By the first pass 0 and 1; by the other 0.
        check.due("pass by one", x.papers(0, 1, 2), 0b000010);
        check.due("with itself", x.papers(1, 1, 0), 0);
        check.due("with itself", x.papers(1, 1, 1), 0);
        check.due("with itself", x.papers(1, 1, 2), 0);
        check.due("a 2", x.papers(2, 0, 0), -1);
        check.due("b 2", x.papers(0, 2, 0), -1);
        check.due("a -1", x.papers(-1, 0, 0), -1);
        check.due("what 3", x.papers(0, 1, 3), -1);
        check.due("what -1", x.papers(0, 1, -1), -1);
    }
}
