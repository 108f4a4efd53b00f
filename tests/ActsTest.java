/** Promises 28 to 33: act, trace, as, image, undo, count. */
public final class ActsTest {
    private static final Check check = new Check();

    public static void main(String[] args) {
        acts();
        noAct();
        wrapping();
        as();
        image();
        imageKeeps();
        count();
        check.end();
    }

    /** One try of each kind, each of the number 3 more than the kind, said the place 7. */
    private static RodDips kinds() {
        RodDips x = new RodDips();
        for (int i = 0; i < 3; i++) x.tryout(0, 0, 0, 0, 0);
        for (int kind = 0; kind < 7; kind++) x.tryout(0, 0, kind, kind, 7);
        return x;
    }

    private static void act(RodDips x, int tryout, int act, int arg, int want, int... bodies) {
        check.promise("28");
        String call = "act(" + tryout + ", " + act + ", " + arg + ")";
        check.due(call, x.act(tryout, act, arg), want);
        check.promise("29");
        check.due("count(5) behind " + call, x.count(5), bodies.length);
        for (int i = 0; i < bodies.length; i++) check.due("trace(" + i + ") behind " + call, x.trace(i), bodies[i]);
        check.due("trace behind the last of " + call, x.trace(bodies.length), -1);
        check.due("trace(-1)", x.trace(-1), -1);
        check.due("trace(20)", x.trace(20), -1);
    }

    private static void acts() {
        RodDips x = kinds();
        // Try 3, a TRY: i 3, s 7.
        act(x, 3, 0, 5, 8, 1);
        act(x, 3, 1, 5, 1, 2, 1);
        act(x, 3, 2, 5, 2, 3, 2, 1);
        // Try 4, a FIELD.
        act(x, 4, 0, 5, 19, 11, 1);
        act(x, 4, 1, 5, 12, 2, 11, 1);
        act(x, 4, 2, 5, 24, 3, 2, 11, 1);
        // Try 5, a BARN.
        act(x, 5, 0, 5, 10, 1);
        act(x, 5, 1, 5, -3, 21, 2, 1);
        act(x, 5, 2, 5, -6, 3, 21, 2, 1);
        // Try 6, SEEN.
        act(x, 6, 0, 5, 11, 1);
        act(x, 6, 1, 5, 4, 2, 1);
        act(x, 6, 2, 5, 15, 31, 3, 2, 1);
        // Try 7, MIDDLE.
        act(x, 7, 0, 5, 12, 1);
        act(x, 7, 1, 5, -5, 21, 2, 1);
        act(x, 7, 2, 5, -8 + 9, 41, 3, 21, 2, 1, 1);
        // Try 8, BOXED.
        act(x, 8, 0, 5, 5, 51, 1);
        act(x, 8, 1, 5, 2, 21, 2, 51, 1);
        act(x, 8, 2, 5, 4, 3, 21, 2, 51, 1);
        // Try 9, WARM.
        act(x, 9, 0, 5, 14, 1);
        act(x, 9, 1, 5, 14, 61, 2, 1);
        act(x, 9, 2, 5, 27, 31, 3, 61, 2, 1);
    }

    private static void noAct() {
        RodDips x = kinds();
        act(x, 0, 1, 1, 1, 2, 1);
        act(x, 0, 3, 1, 0);
        act(x, 0, 1, 1, 1, 2, 1);
        act(x, 0, -1, 1, 0);
        act(x, 0, 1, 1, 1, 2, 1);
        act(x, 10, 0, 1, 0);
        act(x, 0, 1, 1, 1, 2, 1);
        act(x, -1, 0, 1, 0);
    }

    private static void wrapping() {
        RodDips x = kinds();
        act(x, 3, 0, Integer.MAX_VALUE, Integer.MIN_VALUE + 2, 1);
        act(x, 4, 0, Integer.MAX_VALUE, Integer.MAX_VALUE * 3 + 4, 11, 1);
        act(x, 5, 1, Integer.MIN_VALUE + 2, Integer.MIN_VALUE, 21, 2, 1);
        act(x, 7, 2, Integer.MIN_VALUE, 2 + 9, 41, 3, 21, 2, 1, 1);
    }

    private static void as() {
        check.promise("30");
        RodDips x = kinds();
        int[] under = {0b1111111, 0b0000010, 0b0110100, 0b1001000, 0b0010000, 0b0100000, 0b1000000};
        for (int k = 0; k < 7; k++) {
            for (int kind = 0; kind < 7; kind++) {
                int want = (under[k] >> kind & 1) == 1 ? 7 - kind : -6;
                check.due("as(" + (3 + kind) + ", " + k + ")", x.as(3 + kind, k), want);
            }
        }
        check.due("k 7", x.as(0, 7), -1);
        check.due("k -1", x.as(0, -1), -1);
        check.due("try 10", x.as(10, 0), -1);
        check.due("try -1", x.as(-1, 0), -1);
    }

    private static void image() {
        check.promise("31, 32");
        RodDips x = new RodDips();
        check.due("undo() without", x.undo(), -3);
        check.due("image()", x.image(), 0);
        x.barn(50);
        x.tryout(0, 0, 0, 49, 49);
        Check.plan(x, "hit 1");
        Check.law(x, "near 1");
        Check.feed(x, "hit");
        x.act(0, 2, 1);
        check.due("undo()", x.undo(), 0);
        check.due("places", x.count(0), 10);
        for (int what = 1; what < 5; what++) check.due("count(" + what + ")", x.count(what), 0);
        check.due("the trace stays", x.count(5), 3);
        check.due("the trace stays", x.trace(0), 3);
        check.due("of(0, 0)", x.of(0, 0), -1);
        check.due("told(0, 0)", x.told(0, 0), -1);
        check.due("says(0, 0)", x.says(0, 0), -1);
        check.due("undo() again", x.undo(), 0);
        check.due("barn(20)", x.barn(20), 10);
    }

    private static void imageKeeps() {
        RodDips x = new RodDips();
        x.barn(30);
        x.tryout(1, 2, 3, 4, 5);
        x.tryout(1, 2, 6, 29, 5);
        x.excuse(0, 1);
        x.excuse(1, 2);
        Check.plan(x, "hit 3");
        Check.law(x, "at 7 m=1");
        Check.feed(x, "hit 1");
        check.due("image()", x.image(), 2);
        x.excuse(1, 0);
        x.excuse(0, 2);
        x.tryout(5, 5, 5, 5, 5);
        x.plan();
        Check.plan(x, "x");
        Check.law(x, "near 9");
        Check.feed(x, "take m=1 and more");
        check.due("undo()", x.undo(), 2);
        int[] counts = {30, 2, 1, 1, 5};
        for (int what = 0; what < 5; what++) check.due("count(" + what + ")", x.count(what), counts[what]);
        check.due("excused", x.of(0, 5), 1);
        check.due("excused", x.of(1, 5), 2);
        check.due("the tape", x.plan(), 1);
        check.due("as it was", x.told(1, 0), 1);
        check.due("the law", x.says(0, 0), 7);
        x.tryout(4, 4, 4, 4, 4);
        check.due("undo() again", x.undo(), 2);
        check.due("the tape again", x.count(4), 5);
        check.due("a new third", x.tryout(3, 3, 0, 3, 3), 2);
        check.due("its man", x.of(2, 0), 3);
        check.due("not excused", x.of(2, 5), 0);
        check.due("a newer image", x.image(), 3);
        x.excuse(2, 1);
        check.due("undo() to it", x.undo(), 3);
        check.due("not excused", x.of(2, 5), 0);
    }

    private static void count() {
        check.promise("33");
        RodDips x = kinds();
        Check.plan(x, "hit 1");
        Check.plan(x, "hit 2");
        Check.law(x, "near 1");
        Check.feed(x, "four");
        x.act(8, 2, 0);
        int[] want = {10, 10, 2, 1, 4, 5};
        for (int what = 0; what < 6; what++) check.due("count(" + what + ")", x.count(what), want[what]);
        check.due("count(6)", x.count(6), -1);
        check.due("count(-1)", x.count(-1), -1);
    }
}
