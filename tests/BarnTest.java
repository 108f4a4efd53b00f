/** Promises 1 to 6: a new object, barn, tryout, excuse, of, feed. */
public final class BarnTest {
    private static final Check check = new Check();

    public static void main(String[] args) {
        constants();
        newObject();
        barn();
        tryout();
        tryoutFull();
        excuse();
        of();
        feed();
        check.end();
    }

    private static void constants() {
        check.promise("constants");
        check.due("NONE", RodDips.NONE, -1);
        check.due("BAD", RodDips.BAD, -2);
        check.due("STATE", RodDips.STATE, -3);
        check.due("FULL", RodDips.FULL, -4);
        check.due("NO", RodDips.NO, Long.MIN_VALUE);
    }

    private static void newObject() {
        check.promise("1");
        RodDips x = new RodDips();
        check.due("count(0)", x.count(0), 10);
        for (int what = 1; what < 6; what++) check.due("count(" + what + ")", x.count(what), 0);
        check.due("undo()", x.undo(), -3);
        check.due("trace(0)", x.trace(0), -1);
    }

    private static void barn() {
        check.promise("2");
        RodDips x = new RodDips();
        check.due("barn(2)", x.barn(2), 10);
        check.due("barn(100)", x.barn(100), 2);
        check.due("barn(1)", x.barn(1), -2);
        check.due("barn(101)", x.barn(101), -2);
        check.due("barn(MIN)", x.barn(Integer.MIN_VALUE), -2);
        check.due("count(0)", x.count(0), 100);
        x.tryout(0, 0, 0, 99, 0);
        check.due("barn(10) with a try", x.barn(10), -3);
        check.due("barn(1) with a try", x.barn(1), -2);
        check.due("count(0) then", x.count(0), 100);
    }

    private static void tryout() {
        check.promise("3");
        RodDips x = new RodDips();
        check.due("man -1", x.tryout(-1, 0, 0, 0, 0), -1);
        check.due("man 6", x.tryout(6, 0, 0, 0, 0), -1);
        check.due("kind -1", x.tryout(0, 0, -1, 0, 0), -1);
        check.due("kind 7", x.tryout(0, 0, 7, 0, 0), -1);
        check.due("pipe -1", x.tryout(0, 0, 0, -1, 0), -1);
        check.due("pipe 10", x.tryout(0, 0, 0, 10, 0), -1);
        check.due("said -1", x.tryout(0, 0, 0, 0, -1), -1);
        check.due("said 10", x.tryout(0, 0, 0, 0, 10), -1);
        check.due("day -1", x.tryout(0, -1, 0, 0, 0), -2);
        check.due("day 100", x.tryout(0, 100, 0, 0, 0), -2);
        check.due("day and said", x.tryout(0, 100, 0, 0, 10), -1);
        check.due("count(1)", x.count(1), 0);
        check.due("a first", x.tryout(5, 99, 6, 9, 9), 0);
        check.due("a second", x.tryout(0, 0, 0, 0, 0), 1);
        check.due("count(1)", x.count(1), 2);
    }

    private static void tryoutFull() {
        RodDips x = new RodDips();
        for (int i = 0; i < 30; i++) check.due("the " + i + "th", x.tryout(i % 6, i, i % 7, i % 10, 0), i);
        check.due("the 30th", x.tryout(0, 0, 0, 0, 0), -4);
        check.due("full, but man", x.tryout(6, 0, 0, 0, 0), -1);
        check.due("full, but day", x.tryout(0, 100, 0, 0, 0), -2);
        check.due("count(1)", x.count(1), 30);
        check.due("of(29, 3)", x.of(29, 3), 9);
    }

    private static void excuse() {
        check.promise("4");
        RodDips x = new RodDips();
        check.due("no try", x.excuse(0, 1), -1);
        x.tryout(0, 0, 0, 0, 0);
        x.tryout(0, 0, 0, 0, 0);
        check.due("excuse(0, 2)", x.excuse(0, 2), 0);
        check.due("excuse(0, 1)", x.excuse(0, 1), 2);
        check.due("excuse(0, 0)", x.excuse(0, 0), 1);
        check.due("excuse(0, 3)", x.excuse(0, 3), -2);
        check.due("excuse(0, -1)", x.excuse(0, -1), -2);
        check.due("excuse(2, 3)", x.excuse(2, 3), -1);
        check.due("excuse(-1, 0)", x.excuse(-1, 0), -1);
        check.due("of(0, 5)", x.of(0, 5), 0);
        check.due("of(1, 5)", x.of(1, 5), 0);
    }

    private static void of() {
        check.promise("5");
        RodDips x = new RodDips();
        check.due("no try", x.of(0, 0), -1);
        x.tryout(4, 37, 6, 2, 9);
        x.tryout(1, 5, 3, 8, 1);
        x.excuse(0, 2);
        int[] first = {4, 37, 6, 2, 9, 2, 7};
        int[] second = {1, 5, 3, 8, 1, 0, 7};
        for (int what = 0; what < 7; what++) {
            check.due("of(0, " + what + ")", x.of(0, what), first[what]);
            check.due("of(1, " + what + ")", x.of(1, what), second[what]);
        }
        check.due("of(0, 7)", x.of(0, 7), -1);
        check.due("of(0, -1)", x.of(0, -1), -1);
        check.due("of(2, 0)", x.of(2, 0), -1);
        check.due("of(-1, 0)", x.of(-1, 0), -1);
    }

    private static void feed() {
        check.promise("6");
        RodDips x = new RodDips();
        check.due("n 0", x.feed(0, 0), -2);
        check.due("n 9", x.feed(0, 9), -2);
        check.due("n -1", x.feed(0, -1), -2);
        check.due("only the lowest", x.feed(0x1122686974L, 3), 3);
        check.due("the highest first", x.feed(0x2037L, 2), 5);
        check.due("plan()", x.plan(), 0);
        check.due("told(0, 0)", x.told(0, 0), 7);
        for (int i = 1; i <= 14; i++) check.due("8 bytes", x.feed(-1L, 8), 8 * i);
        check.due("7 more", x.feed(0, 7), 119);
        check.due("2 too many", x.feed(0, 2), -4);
        check.due("full, but n", x.feed(0, 9), -2);
        check.due("count(4)", x.count(4), 119);
        check.due("the last", x.feed(0, 1), 120);
        check.due("one too many", x.feed(0, 1), -4);
        check.due("plan() of bytes of 255", x.plan(), -10);
        check.due("count(4) then", x.count(4), 0);
    }
}
