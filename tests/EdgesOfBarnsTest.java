/** Each sentence about barns, men, tries and THE TAPE's bytes that names a boundary: both of its sides. */
public final class EdgesOfBarnsTest {
    private static final int NONE = -1, BAD = -2, STATE = -3, FULL = -4;
    private static final int MIN = Integer.MIN_VALUE, MAX = Integer.MAX_VALUE;
    private static final Check check = new Check();

    public static void main(String[] args) {
        tenAtFirst();
        twoToHundred();
        placesFromNought();
        onlyWhileThereAreNoTries();
        onlyTries();
        men();
        numberedThirtyAtMost();
        roomAgain();
        days();
        kinds();
        refusalsOfTryout();
        excused();
        near();
        ofWhat();
        hundredTwentyBytes();
        oneToEightBytes();
        lowestBytesHighestFirst();
        check.end();
    }

    private static void tenAtFirst() {
        check.promise("10 at first");
        RodDips x = new RodDips();
        check.due("count(0)", x.count(0), 10);
        check.due("pipe 10", x.tryout(0, 0, 0, 10, 0), NONE);
        check.due("said 10", x.tryout(0, 0, 0, 0, 10), NONE);
        check.due("pipe 9, said 9", x.tryout(0, 0, 0, 9, 9), 0);
        check.due("barn(10) of another", new RodDips().barn(10), 10);
    }

    private static void twoToHundred() {
        check.promise("n 2 .. 100");
        RodDips x = new RodDips();
        int[] bad = {1, 0, -1, 101, 102, -2, -100, MIN, MAX};
        for (int n : bad) check.due("barn(" + n + ")", x.barn(n), BAD);
        check.due("count(0) then", x.count(0), 10);
        check.due("barn(2)", x.barn(2), 10);
        for (int n : bad) check.due("barn(" + n + ") of two", x.barn(n), BAD);
        check.due("barn(100)", x.barn(100), 2);
        for (int n : bad) check.due("barn(" + n + ") of a hundred", x.barn(n), BAD);
        check.due("count(0) then", x.count(0), 100);
        check.due("how many there were", x.barn(99), 100);
        check.due("the same once more", x.barn(99), 99);
        check.due("barn(3)", x.barn(3), 99);
    }

    private static void placesFromNought() {
        check.promise("PLACES 0 .. n - 1");
        for (int n = 2; n <= 100; n++) {
            RodDips x = new RodDips();
            x.barn(n);
            int[] out = {-1, n, n + 1, MIN, MAX};
            for (int place : out) {
                check.due("pipe " + place + " of " + n, x.tryout(0, 0, 0, place, 0), NONE);
                check.due("said " + place + " of " + n, x.tryout(0, 0, 0, 0, place), NONE);
                check.due("fair's place " + place + " of " + n, x.fair(0, place, 0, 100, 100), NONE);
            }
            check.due("the first of " + n, x.tryout(0, 0, 0, 0, 0), 0);
            check.due("the last of " + n, x.tryout(0, 0, 0, n - 1, n - 1), 1);
            check.due("its pipe", x.of(1, 3), n - 1);
            check.due("its place said", x.of(1, 4), n - 1);
            check.due("fair's first of " + n, x.fair(0, 0, 0, 100, 100), 10);
            check.due("fair's last of " + n, x.fair(0, n - 1, 0, 100, 100), 10);
        }
    }

    private static void onlyWhileThereAreNoTries() {
        check.promise("only while there are no TRIES it is told otherwise");
        RodDips x = new RodDips();
        check.due("barn(11)", x.barn(11), 10);
        x.tryout(6, 0, 0, 0, 0);
        x.tryout(0, -1, 0, 0, 0);
        Check.plan(x, "hit 1");
        Check.law(x, "near 1");
        Check.feed(x, "hit");
        x.act(0, 0, 0);
        check.due("with a plan, a law, a tape and refused tries", x.barn(12), 11);
        check.due("image()", x.image(), 0);
        x.tryout(0, 0, 0, 11, 0);
        check.due("with one try", x.barn(13), STATE);
        check.due("the same number", x.barn(12), STATE);
        check.due("BAD is told ahead of STATE", x.barn(101), BAD);
        check.due("BAD is told ahead of STATE", x.barn(1), BAD);
        check.due("count(0) then", x.count(0), 12);
        check.due("undo()", x.undo(), 0);
        check.due("without the try", x.barn(14), 12);
        x.tryout(0, 0, 0, 13, 0);
        x.image();
        x.undo();
        check.due("with the try of an image", x.barn(15), STATE);
    }

    /** PLACES of THE IMAGE come back, and its places bound what is told then. */
    private static void onlyTries() {
        check.promise("All is as THE IMAGE: PLACES");
        RodDips x = new RodDips();
        x.barn(5);
        x.image();
        x.barn(50);
        check.due("a place of fifty", x.tryout(0, 0, 0, 49, 5), 0);
        check.due("undo()", x.undo(), 0);
        check.due("no place of five", x.tryout(0, 0, 0, 4, 5), NONE);
        check.due("the last of five", x.tryout(0, 0, 0, 4, 4), 0);
    }

    private static void men() {
        check.promise("MEN 0 .. 5");
        RodDips x = new RodDips();
        Check.plan(x, "need 0");
        int[] out = {-1, 6, 7, MIN, MAX};
        for (int man : out) {
            check.due("tryout of man " + man, x.tryout(man, 0, 0, 0, 0), NONE);
            check.due("fixed of man " + man, x.fixed(0, man), NONE);
            check.due("afterwards of man " + man, x.afterwards(0, man), NONE);
            check.due("excuses of man " + man, x.excuses(0, man, 0, 0), NONE);
        }
        for (int man = 0; man < 6; man++) {
            check.due("tryout of man " + man, x.tryout(man, 0, 0, 0, 0), man);
            check.due("of(" + man + ", 0)", x.of(man, 0), man);
            check.due("fixed of man " + man, x.fixed(0, man), 0);
            check.due("excuses of man " + man, x.excuses(0, man, 0, 0), 1);
        }
        check.due("passes(0)", x.passes(0), 63);
    }

    private static void numberedThirtyAtMost() {
        check.promise("TRIES are numbered from 0 on, 30 at most");
        RodDips x = new RodDips();
        for (int i = 0; i < 30; i++) {
            check.due("of(" + i + ", 0) ahead", x.of(i, 0), NONE);
            check.due("tryout of " + i, x.tryout(i % 6, 0, 0, 0, 0), i);
            check.due("count(1) then", x.count(1), i + 1);
            check.due("of(" + i + ", 0)", x.of(i, 0), i % 6);
        }
        for (int i = 0; i < 3; i++) check.due("one too many", x.tryout(0, 0, 0, 0, 0), FULL);
        check.due("count(1) then", x.count(1), 30);
        int[] out = {-1, 30, 31, 32, MIN, MAX};
        for (int i : out) {
            check.due("of(" + i + ", 0)", x.of(i, 0), NONE);
            check.due("excuse(" + i + ", 0)", x.excuse(i, 0), NONE);
            check.due("as(" + i + ", 0)", x.as(i, 0), NONE);
        }
        check.due("excuse of the last", x.excuse(29, 2), 0);
        check.due("of(29, 5)", x.of(29, 5), 2);
        check.due("of(28, 5)", x.of(28, 5), 0);
    }

    private static void roomAgain() {
        check.promise("TRIES 30 at most, behind undo");
        RodDips x = new RodDips();
        for (int i = 0; i < 29; i++) x.tryout(0, 0, 0, 0, 0);
        x.image();
        check.due("the thirtieth", x.tryout(1, 0, 0, 0, 0), 29);
        check.due("one too many", x.tryout(2, 0, 0, 0, 0), FULL);
        check.due("undo()", x.undo(), 29);
        check.due("of(29, 0)", x.of(29, 0), NONE);
        check.due("another thirtieth", x.tryout(3, 0, 0, 0, 0), 29);
        check.due("of(29, 0)", x.of(29, 0), 3);
        check.due("one too many", x.tryout(4, 0, 0, 0, 0), FULL);
    }

    private static void days() {
        check.promise("on a DAY (0 .. 99)");
        RodDips x = new RodDips();
        int[] out = {-1, 100, 101, MIN, MAX};
        for (int day : out) check.due("day " + day, x.tryout(0, day, 0, 0, 0), BAD);
        check.due("count(1) then", x.count(1), 0);
        check.due("day 0", x.tryout(0, 0, 0, 0, 0), 0);
        check.due("day 99", x.tryout(0, 99, 0, 0, 0), 1);
        check.due("of(0, 1)", x.of(0, 1), 0);
        check.due("of(1, 1)", x.of(1, 1), 99);
    }

    private static void kinds() {
        check.promise("0 TRY; 1 FIELD, 2 BARN, 3 SEEN under TRY; 4 MIDDLE, 5 BOXED under BARN; 6 WARM under SEEN");
        RodDips x = new RodDips();
        int[] out = {-1, 7, 8, MIN, MAX};
        for (int kind : out) check.due("kind " + kind, x.tryout(0, 0, kind, 0, 0), NONE);
        for (int kind = 0; kind < 7; kind++) {
            check.due("kind " + kind, x.tryout(0, 0, kind, 0, kind), kind);
            check.due("of(" + kind + ", 2)", x.of(kind, 2), kind);
            for (int k : out) check.due("as(" + kind + ", " + k + ")", x.as(kind, k), NONE);
            check.due("as itself", x.as(kind, kind), kind);
            check.due("as a TRY", x.as(kind, 0), kind);
        }
        // Of each kind the kinds that it may be taken for, as bits.
        int[] above = {0b0000001, 0b0000011, 0b0000101, 0b0001001, 0b0010101, 0b0100101, 0b1001001};
        for (int kind = 0; kind < 7; kind++) {
            for (int k = 0; k < 7; k++) check.due("as(" + kind + ", " + k + ")", x.as(kind, k), (above[kind] >> k & 1) == 1 ? kind : -6);
        }
        check.due("no such try is told ahead of another kind", x.as(7, 1), NONE);
    }

    private static void refusalsOfTryout() {
        check.promise("tryout: NONE: man, kind, pipe, said; BAD: day; FULL");
        RodDips x = new RodDips();
        for (int tries = 0; tries <= 30; tries++) {
            check.due("man and day", x.tryout(6, 100, 0, 0, 0), NONE);
            check.due("kind and day", x.tryout(0, 100, 7, 0, 0), NONE);
            check.due("pipe and day", x.tryout(0, -1, 0, 10, 0), NONE);
            check.due("said and day", x.tryout(0, -1, 0, 0, -1), NONE);
            check.due("day", x.tryout(0, 100, 0, 0, 0), BAD);
            check.due("count(1)", x.count(1), tries);
            check.due("nothing", x.tryout(0, 0, 0, 0, 0), tries == 30 ? FULL : tries);
        }
    }

    private static void excused() {
        check.promise("EXCUSED: 0 not (at first), 1 before, 2 after");
        RodDips x = new RodDips();
        check.due("no try at all", x.excuse(0, 0), NONE);
        check.due("NONE is told ahead of BAD", x.excuse(0, 3), NONE);
        x.tryout(0, 0, 0, 0, 0);
        x.tryout(0, 0, 0, 0, 0);
        check.due("at first", x.of(0, 5), 0);
        int before = 0;
        for (int n : new int[] {0, 1, 1, 2, 2, 0, 2, 1, 0}) {
            check.due("excuse(0, " + n + ")", x.excuse(0, n), before);
            check.due("of(0, 5)", x.of(0, 5), n);
            for (int bad : new int[] {-1, 3, 4, MIN, MAX}) check.due("excuse(0, " + bad + ")", x.excuse(0, bad), BAD);
            check.due("of(0, 5) behind these", x.of(0, 5), n);
            before = n;
        }
        check.due("the other", x.of(1, 5), 0);
        check.due("NONE is told ahead of BAD", x.excuse(2, -1), NONE);
        check.due("NONE is told ahead of BAD", x.excuse(-1, 3), NONE);
    }

    private static void near() {
        check.promise("NEAR of a TRY: how far SAID is from the PIPE");
        RodDips x = new RodDips();
        x.barn(100);
        int[][] rows = {{0, 0, 0}, {99, 99, 0}, {0, 99, 99}, {99, 0, 99}, {50, 51, 1}, {51, 50, 1}, {1, 99, 98}, {98, 0, 98}};
        for (int i = 0; i < rows.length; i++) {
            x.tryout(0, 0, 0, rows[i][0], rows[i][1]);
            check.due("of(" + i + ", 6)", x.of(i, 6), rows[i][2]);
            check.due("as(" + i + ", 0)", x.as(i, 0), rows[i][2]);
        }
    }

    private static void ofWhat() {
        check.promise("of: what 0 MAN .. 6 NEAR");
        RodDips x = new RodDips();
        for (int what = -1; what < 8; what++) check.due("of(0, " + what + ") of none", x.of(0, what), NONE);
        x.tryout(5, 99, 6, 0, 9);
        for (int what : new int[] {-1, 7, 8, MIN, MAX}) {
            check.due("of(0, " + what + ")", x.of(0, what), NONE);
            check.due("of(1, " + what + ")", x.of(1, what), NONE);
        }
        int[] want = {5, 99, 6, 0, 9, 0, 9};
        for (int what = 0; what < 7; what++) check.due("of(0, " + what + ")", x.of(0, what), want[what]);
    }

    private static void hundredTwentyBytes() {
        check.promise("THE TAPE (bytes, 120 at most)");
        RodDips x = new RodDips();
        for (int i = 1; i <= 120; i++) check.due("byte " + i, x.feed('h', 1), i);
        for (int n = 1; n <= 8; n++) check.due(n + " bytes more", x.feed('h', n), FULL);
        check.due("BAD is told ahead of FULL", x.feed('h', 0), BAD);
        check.due("BAD is told ahead of FULL", x.feed('h', 9), BAD);
        check.due("count(4)", x.count(4), 120);
        check.due("plan()", x.plan(), -11);
        check.due("count(4) then", x.count(4), 0);
        for (int i = 1; i <= 15; i++) check.due("eight bytes", x.feed(0, 8), 8 * i);
        check.due("one more", x.feed(0, 1), FULL);
        check.due("law()", x.law(), -10);
        check.due("one of an empty tape", x.feed(0, 1), 1);
        noneOfThemComes();
    }

    /** What is refused leaves no byte behind: the tape is the plan that it was to be. */
    private static void noneOfThemComes() {
        RodDips x = new RodDips();
        String text = "take " + Check.repeated("m=1|", 28) + "m=";
        Check.feed(x, text);
        for (int n = 2; n <= 8; n++) check.due(n + " bytes behind 119", x.feed(0x3131313131313131L, n), FULL);
        check.due("count(4)", x.count(4), 119);
        check.due("the last", x.feed('2', 1), 120);
        x.tryout(2, 0, 0, 0, 0);
        check.due("plan()", x.plan(), 0);
        check.due("told(0, 2)", x.told(0, 2), 1);
    }

    private static void oneToEightBytes() {
        check.promise("feed: BAD: n not 1 .. 8");
        RodDips x = new RodDips();
        for (int n : new int[] {0, -1, 9, 10, MIN, MAX, -8, 16, 64}) check.due("n " + n, x.feed(-1, n), BAD);
        check.due("count(4)", x.count(4), 0);
        int bytes = 0;
        for (int n = 1; n <= 8; n++) {
            bytes += n;
            check.due("n " + n, x.feed(-1, n), bytes);
        }
        check.due("count(4)", x.count(4), 36);
    }

    private static void lowestBytesHighestFirst() {
        check.promise("The n lowest bytes of w, the highest first");
        long hit = 0x6869742031323b68L;
        RodDips x = new RodDips();
        check.due("eight: hit 12;h", x.feed(hit, 8), 8);
        check.due("the lowest three of more: it ", x.feed(0x7777777777697420L, 3), 11);
        check.due("a byte of a negative number: 3", x.feed(-205L, 1), 12);
        check.due("plan()", x.plan(), 0);
        check.due("told(0, 0)", x.told(0, 0), 3);
        // A highest byte over 127 is the first one, and no blank or sign stands in for it.
        check.due("eight with a highest of 255", x.feed(-1L, 8), 8);
        check.due("plan()", x.plan(), -10);
        for (int value = 0; value < 256; value++) {
            RodDips other = new RodDips();
            other.feed(value, 1);
            check.due("plan() of the byte " + value, other.plan(), "hntd".indexOf((char) value) >= 0 ? -11 : -10);
        }
    }
}
