/** Each sentence about ACTS, THE TRACE, THE IMAGE and counts that names a boundary: both of its sides. */
public final class EdgesOfActsTest {
    private static final int NONE = -1, STATE = -3;
    private static final int MIN = Integer.MIN_VALUE, MAX = Integer.MAX_VALUE;
    private static final Check check = new Check();

    public static void main(String[] args) {
        wrapping();
        numbersOfTheLastTry();
        noAct();
        traceOfTheLatest();
        traceRefused();
        asRefused();
        imageOfNothing();
        imageOfAll();
        imageOfFull();
        imageTwice();
        imageAndTheTape();
        traceStays();
        counts();
        check.end();
    }

    /** One try of each kind; of try i the kind i, all said the place 9. */
    private static RodDips kinds() {
        RodDips x = new RodDips();
        for (int kind = 0; kind < 7; kind++) x.tryout(0, 0, kind, 0, 9);
        return x;
    }

    private static void act(RodDips x, int tryout, int act, int arg, int want, int... bodies) {
        String call = "act(" + tryout + ", " + act + ", " + arg + ")";
        check.due(call, x.act(tryout, act, arg), want);
        check.due("count(5) behind " + call, x.count(5), bodies.length);
        for (int i = 0; i < bodies.length; i++) check.due("trace(" + i + ") behind " + call, x.trace(i), bodies[i]);
        check.due("trace behind the last of " + call, x.trace(bodies.length), NONE);
    }

    private static void wrapping() {
        check.promise("ACTS of a TRY with x (ints, wrapping)");
        RodDips x = kinds();
        act(x, 0, 0, MAX, MAX, 1);
        act(x, 0, 0, MIN, MIN, 1);
        act(x, 0, 1, MIN, MAX - 8, 2, 1);
        act(x, 0, 1, MIN + 8, MAX, 2, 1);
        act(x, 0, 1, MIN + 9, MIN, 2, 1);
        act(x, 0, 2, MIN + 9, 0, 3, 2, 1);
        act(x, 0, 2, 1073741824 + 8, MAX - 1, 3, 2, 1);
        act(x, 0, 2, 1073741824 + 9, MIN, 3, 2, 1);
        act(x, 2, 0, MAX, MIN + 1, 1);
        act(x, 2, 0, MAX - 2, MAX, 1);
        // 3 times 715827882 is 2147483646, and 1 more goes over.
        act(x, 1, 0, 715827882, MAX, 11, 1);
        act(x, 1, 0, 715827883, MIN + 2, 11, 1);
        act(x, 1, 0, MAX, MAX - 1, 11, 1);
        act(x, 1, 0, MIN, MIN + 1, 11, 1);
        // Less the least number is the least number again.
        act(x, 2, 1, MIN + 7, MIN, 21, 2, 1);
        act(x, 2, 1, MIN + 8, MAX, 21, 2, 1);
        act(x, 2, 1, MIN + 6, -MAX, 21, 2, 1);
        act(x, 3, 2, MIN + 6, 7, 31, 3, 2, 1);
        // x - 1 of the least number is the largest: -(MAX + 4 - 9) times 2, and 6.
        act(x, 4, 2, MIN, 2 * 6 + 6, 41, 3, 21, 2, 1, 1);
        act(x, 4, 2, MIN + 6, 0 + 6, 41, 3, 21, 2, 1, 1);
        act(x, 5, 0, MAX, MIN + 1, 51, 1);
        act(x, 5, 0, MAX - 5, MAX ^ 5, 51, 1);
        act(x, 6, 1, MAX, MIN + 5, 61, 2, 1);
        act(x, 6, 2, MIN, 12 ^ 7, 31, 3, 61, 2, 1);
    }

    private static void numbersOfTheLastTry() {
        check.promise("i its number, s the place SAID");
        RodDips x = new RodDips();
        x.barn(100);
        for (int i = 0; i < 29; i++) x.tryout(0, 0, 0, 0, 0);
        x.tryout(0, 0, 5, 0, 99);
        act(x, 29, 0, 0, 29 ^ 29, 51, 1);
        act(x, 29, 0, 3, 32 ^ 29, 51, 1);
        act(x, 29, 1, 3, 99 - (32 ^ 29), 21, 2, 51, 1);
        act(x, 0, 0, 0, 0, 1);
        act(x, 0, 1, 0, 0, 2, 1);
    }

    private static void noAct() {
        check.promise("act: 0, and no TRACE then: no such TRY, act");
        RodDips x = new RodDips();
        act(x, 0, 0, 5, 0);
        x.tryout(0, 0, 0, 0, 4);
        for (int n : new int[] {-1, 1, 30, MIN, MAX}) {
            act(x, 0, 2, 5, 2, 3, 2, 1);
            act(x, n, 0, 5, 0);
            act(x, n, 3, 5, 0);
        }
        for (int n : new int[] {-1, 3, 4, MIN, MAX}) {
            act(x, 0, 2, 5, 2, 3, 2, 1);
            act(x, 0, n, 5, 0);
        }
        act(x, 0, 0, 0, 0, 1);
    }

    private static void traceOfTheLatest() {
        check.promise("THE TRACE: the bodies that ran in the latest act(), as they began; the first 20 are kept");
        RodDips x = kinds();
        // The most that run at once are six: the 20 are never more than that.
        act(x, 4, 2, 0, (9 - 3) * 2 + 6, 41, 3, 21, 2, 1, 1);
        act(x, 0, 0, 0, 0, 1);
        for (int i = 1; i < 21; i++) check.due("trace(" + i + ") of one", x.trace(i), NONE);
        act(x, 5, 2, 0, 2 * 9, 3, 21, 2, 51, 1);
    }

    private static void traceRefused() {
        check.promise("trace: NONE");
        RodDips x = kinds();
        for (int i : new int[] {-1, 0, 1, 19, 20, 21, MIN, MAX}) check.due("trace(" + i + ") of none", x.trace(i), NONE);
        x.act(4, 2, 0);
        for (int i : new int[] {-1, 6, 7, 19, 20, 21, MIN, MAX}) check.due("trace(" + i + ") of six", x.trace(i), NONE);
        check.due("trace(0)", x.trace(0), 41);
        check.due("trace(5)", x.trace(5), 1);
    }

    private static void asRefused() {
        check.promise("as: NONE: tryout, k; -6: it is of another KIND");
        RodDips x = new RodDips();
        check.due("no try", x.as(0, 0), NONE);
        x.tryout(0, 0, 1, 0, 9);
        for (int n : new int[] {-1, 7, 8, MIN, MAX}) {
            check.due("k " + n, x.as(0, n), NONE);
            check.due("try " + n, x.as(n, 0), NONE);
            check.due("try " + n + ", another kind", x.as(n, 2), NONE);
        }
        check.due("try 1", x.as(1, 0), NONE);
        int[] want = {9, 9, -6, -6, -6, -6, -6};
        for (int k = 0; k < 7; k++) check.due("as(0, " + k + ")", x.as(0, k), want[k]);
    }

    // ---- THE IMAGE

    private static void imageOfNothing() {
        check.promise("undo: STATE: there is none");
        RodDips x = new RodDips();
        check.due("undo()", x.undo(), STATE);
        x.tryout(0, 0, 0, 0, 0);
        check.due("undo()", x.undo(), STATE);
        check.due("count(1) then", x.count(1), 1);
        check.due("image()", x.image(), 1);
        check.due("undo()", x.undo(), 1);
        check.due("once more", x.undo(), 1);
        RodDips y = new RodDips();
        check.due("an image of nothing", y.image(), 0);
        check.due("undo() to it", y.undo(), 0);
    }

    /** All that there is: each of these alone is changed and comes back. */
    private static void imageOfAll() {
        check.promise("THE IMAGE: all that there is");
        RodDips x = new RodDips();
        x.barn(30);
        check.due("image() of places alone", x.image(), 0);
        check.due("barn(40)", x.barn(40), 30);
        check.due("undo()", x.undo(), 0);
        check.due("count(0)", x.count(0), 30);
        x.tryout(1, 2, 3, 29, 5);
        Check.plan(x, "hit 7;need 2");
        Check.law(x, "at 3 m=1");
        Check.feed(x, "hit 1");
        x.excuse(0, 1);
        check.due("image()", x.image(), 1);
        x.excuse(0, 2);
        check.due("undo()", x.undo(), 1);
        check.due("excused", x.of(0, 5), 1);
        x.tryout(1, 2, 3, 4, 5);
        check.due("undo()", x.undo(), 1);
        check.due("count(1)", x.count(1), 1);
        check.due("plan() of the tape", x.plan(), 1);
        check.due("undo()", x.undo(), 1);
        check.due("count(2)", x.count(2), 1);
        check.due("count(4)", x.count(4), 5);
        check.due("a fault of the tape", x.law(), -10);
        check.due("undo()", x.undo(), 1);
        Check.feed(x, "2");
        check.due("undo()", x.undo(), 1);
        check.due("the tape's plan", x.plan(), 1);
        check.due("hit 1", x.told(1, 0), 1);
        Check.law(x, "at 4 m=1");
        check.due("undo()", x.undo(), 1);
        int[] counts = {30, 1, 1, 1, 5}, of = {1, 2, 3, 29, 5, 1, 24};
        for (int what = 0; what < 5; what++) check.due("count(" + what + ")", x.count(what), counts[what]);
        for (int what = 0; what < 7; what++) check.due("of(0, " + what + ")", x.of(0, what), of[what]);
        check.due("told(0, 0)", x.told(0, 0), 7);
        check.due("told(0, 1)", x.told(0, 1), 2);
        check.due("says(0, 0)", x.says(0, 0), 3);
    }

    private static void imageOfFull() {
        check.promise("THE IMAGE of all that may be kept");
        RodDips x = new RodDips();
        for (int i = 0; i < 30; i++) x.tryout(i % 6, i, i % 7, i % 10, 9 - i % 10);
        for (int i = 0; i < 5; i++) {
            Check.planWide(x, "hit " + i);
            Check.lawWide(x, "at " + i + " m<9");
        }
        for (int i = 0; i < 30; i++) x.excuse(i, i % 3);
        Check.feedWide(x, Check.repeated("hit 1;", 20));
        check.due("image()", x.image(), 30);
        for (int i = 0; i < 30; i++) x.excuse(i, (i + 1) % 3);
        check.due("law() is full", x.law(), -4);
        check.due("undo()", x.undo(), 30);
        for (int i = 0; i < 30; i++) check.due("of(" + i + ", 5)", x.of(i, 5), i % 3);
        check.due("count(4)", x.count(4), 120);
        for (int i = 0; i < 5; i++) {
            check.due("told(" + i + ", 0)", x.told(i, 0), i);
            check.due("says(" + i + ", 29)", x.says(i, 29), i);
        }
        check.due("one too many", x.tryout(0, 0, 0, 0, 0), -4);
    }

    private static void imageTwice() {
        check.promise("THE IMAGE is taken: the latest one holds, and stays for another undo");
        RodDips x = new RodDips();
        x.barn(20);
        x.image();
        x.tryout(0, 0, 0, 0, 0);
        check.due("a newer image", x.image(), 1);
        x.tryout(1, 1, 1, 1, 1);
        check.due("undo()", x.undo(), 1);
        check.due("of(0, 0)", x.of(0, 0), 0);
        check.due("of(1, 0)", x.of(1, 0), NONE);
        check.due("another second", x.tryout(2, 2, 2, 2, 2), 1);
        check.due("of(1, 0)", x.of(1, 0), 2);
        check.due("undo() again", x.undo(), 1);
        check.due("of(1, 0)", x.of(1, 0), NONE);
        Check.plan(x, "hit 1");
        Check.plan(x, "hit 2");
        x.image();
        x.undo();
        Check.plan(x, "hit 3");
        check.due("undo() once more", x.undo(), 1);
        check.due("another third", Check.plan(x, "hit 4"), 2);
        int[] hits = {1, 2, 4};
        for (int i = 0; i < 3; i++) check.due("told(" + i + ", 0)", x.told(i, 0), hits[i]);
    }

    private static void imageAndTheTape() {
        check.promise("THE IMAGE: THE TAPE, empty and full");
        RodDips x = new RodDips();
        x.image();
        Check.feedWide(x, Check.repeated("h", 120));
        check.due("undo()", x.undo(), 0);
        check.due("count(4)", x.count(4), 0);
        String text = "take " + Check.repeated("m=1|", 28) + "m=2";
        Check.feedWide(x, text);
        x.image();
        check.due("plan()", x.plan(), 0);
        Check.feedWide(x, "drop x=1");
        x.undo();
        check.due("count(4)", x.count(4), 120);
        check.due("one more byte", x.feed('h', 1), -4);
        check.due("plan() of it", x.plan(), 0);
        x.tryout(2, 0, 0, 0, 0);
        check.due("told(0, 2)", x.told(0, 2), 1);
    }

    private static void traceStays() {
        check.promise("THE IMAGE: (but THE IMAGE and THE TRACE)");
        RodDips x = kinds();
        x.act(0, 2, 0);
        x.image();
        check.due("the trace behind image()", x.count(5), 3);
        x.act(4, 2, 0);
        x.undo();
        check.due("the trace behind undo()", x.count(5), 6);
        check.due("its first", x.trace(0), 41);
        check.due("its last", x.trace(5), 1);
        x.act(9, 2, 0);
        x.undo();
        check.due("no trace behind undo()", x.count(5), 0);
        check.due("no trace behind undo()", x.trace(0), NONE);
    }

    private static void counts() {
        check.promise("count: 0 PLACES .. 5 bodies that ran in the latest act(). NONE");
        RodDips x = new RodDips();
        for (int what : new int[] {-1, 6, 7, MIN, MAX}) check.due("count(" + what + ")", x.count(what), NONE);
        check.due("count(0) at first", x.count(0), 10);
        for (int what = 1; what < 6; what++) check.due("count(" + what + ") at first", x.count(what), 0);
        x.barn(2);
        x.tryout(0, 0, 6, 0, 0);
        Check.plan(x, "hit 0");
        Check.law(x, "near 0");
        Check.feed(x, "x");
        x.act(0, 0, 0);
        int[] want = {2, 1, 1, 1, 1, 1};
        for (int what = 0; what < 6; what++) check.due("count(" + what + ")", x.count(what), want[what]);
        x.act(0, 2, 0);
        check.due("count(5)", x.count(5), 5);
    }
}
