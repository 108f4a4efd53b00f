/** Each sentence of paragraph 3 that names a boundary: both of its sides. Faults of laws are in EdgesOfTextsTest. */
public final class EdgesOfLawsTest {
    private static final int NONE = -1, BAD = -2, NOTHING = -5;
    private static final int MIN = Integer.MIN_VALUE, MAX = Integer.MAX_VALUE;
    private static final Check check = new Check();

    public static void main(String[] args) {
        keptInThePlaces();
        firstClauseWhoseEHolds();
        anyPlace();
        hundredWithoutOne();
        otherTests();
        lastNear();
        noFartherThanNear();
        nearOfAnyPlace();
        firstThatItHasNot();
        fitsOfSets();
        letOfSets();
        saysRefused();
        check.end();
    }

    private static void says(RodDips x, int law, int... want) {
        for (int i = 0; i < want.length; i++) check.due("says(" + law + ", " + i + ")", x.says(law, i), want[i]);
    }

    private static void keptInThePlaces() {
        check.promise("at: n; by: the PIPE's place and n; off: less n (all kept in 0 .. PLACES less 1)");
        RodDips x = new RodDips();
        x.barn(20);
        int[] pipes = {0, 1, 10, 18, 19};
        for (int pipe : pipes) x.tryout(0, 0, 0, pipe, 0);
        String[] texts = {"at 0", "at 18", "at 19", "at 20", "at 99", "by 0", "by 1", "by 9", "by 10", "by 99", "off 0", "off 1", "off 10", "off 11", "off 99"};
        int[][] want = {{0, 0, 0, 0, 0}, {18, 18, 18, 18, 18}, {19, 19, 19, 19, 19}, {19, 19, 19, 19, 19}, {19, 19, 19, 19, 19},
            {0, 1, 10, 18, 19}, {1, 2, 11, 19, 19}, {9, 10, 19, 19, 19}, {10, 11, 19, 19, 19}, {19, 19, 19, 19, 19},
            {0, 1, 10, 18, 19}, {0, 0, 9, 17, 18}, {0, 0, 0, 8, 9}, {0, 0, 0, 7, 8}, {0, 0, 0, 0, 0}};
        for (int i = 0; i < texts.length; i++) {
            x.image();
            check.due("law() of " + texts[i], Check.lawWide(x, texts[i] + " m=0"), 0);
            says(x, 0, want[i]);
            x.undo();
        }
        ofTheLeastAndTheLargest();
    }

    private static void ofTheLeastAndTheLargest() {
        for (int places : new int[] {2, 100}) {
            RodDips x = new RodDips();
            x.barn(places);
            x.tryout(0, 0, 0, 0, 0);
            x.tryout(0, 0, 0, places - 1, 0);
            Check.law(x, "at 99 m=0");
            Check.law(x, "by 99 m=0");
            Check.law(x, "off 99 m=0");
            Check.law(x, "by 1 m=0");
            Check.law(x, "off 1 m=0");
            says(x, 0, places - 1, places - 1);
            says(x, 1, places - 1, places - 1);
            says(x, 2, 0, 0);
            says(x, 3, 1, places - 1);
            says(x, 4, 0, places - 2);
        }
    }

    private static void firstClauseWhoseEHolds() {
        check.promise("By a LAW a TRY would be SAID: the first CLAUSE whose E holds");
        RodDips x = new RodDips();
        for (int day = 0; day < 9; day++) x.tryout(0, day, 0, 5, 5);
        Check.law(x, "at 0 d=0;at 1 d=1;at 2 d=2;at 3 d=3;at 4 d=4;by 1 d=5;off 4 d=6;at 9 d=7");
        says(x, 0, 0, 1, 2, 3, 4, 6, 1, 9, -5);
        Check.law(x, "at 1 d<3;near 9;at 2 d<5;at 3 d<3;near 0;off 1 d<99;at 7 d=8");
        says(x, 1, 1, 1, 1, 2, 2, 4, 4, 4, 4);
        Check.law(x, "near 1;near 1;near 1;near 1;near 1;near 1;near 1;at 7 d=8");
        says(x, 2, -5, -5, -5, -5, -5, -5, -5, -5, 7);
    }

    private static void anyPlace() {
        check.promise("none: any place");
        RodDips x = new RodDips();
        x.tryout(0, 0, 0, 0, 9);
        x.tryout(0, 1, 0, 9, 0);
        Check.law(x, "near 0");
        Check.law(x, "at 9 d>1");
        Check.law(x, "at 9 d=1");
        says(x, 0, NOTHING, NOTHING);
        says(x, 1, NOTHING, NOTHING);
        says(x, 2, NOTHING, 9);
    }

    private static void hundredWithoutOne() {
        check.promise("l the place that the same MAN SAID in his TRY before (100 without one)");
        RodDips x = new RodDips();
        x.barn(100);
        int[] men = {0, 5, 0, 5, 5, 0, 1};
        int[] saids = {99, 0, 0, 98, 1, 50, 7};
        int[] before = {100, 100, 99, 0, 98, 0, 100};
        // The days run backwards: before is who came before.
        for (int i = 0; i < 7; i++) x.tryout(men[i], 90 - i, i, 3, saids[i]);
        for (int i = 0; i < 7; i++) {
            for (int n = Math.max(0, before[i] - 1); n <= Math.min(99, before[i] + 1); n++) {
                for (int sign = -1; sign <= 1; sign++) {
                    x.image();
                    String e = "l" + "<=>".charAt(sign + 1) + n;
                    Check.lawWide(x, "at 44 " + e);
                    check.due("says by " + e + " of " + i, x.says(0, i), Integer.compare(before[i], n) == sign ? 44 : NOTHING);
                    x.undo();
                }
            }
        }
    }

    private static void otherTests() {
        check.promise("with TESTS p PIPE's place, d DAY, k KIND, m MAN");
        RodDips x = new RodDips();
        x.barn(100);
        x.tryout(5, 98, 6, 97, 1);
        x.tryout(0, 0, 0, 0, 1);
        String letters = "pdkm";
        int[] values = {97, 98, 6, 5};
        for (int i = 0; i < 4; i++) {
            for (int n = values[i] - 1; n <= values[i] + 1; n++) {
                for (int sign = -1; sign <= 1; sign++) {
                    x.image();
                    String e = "" + letters.charAt(i) + "<=>".charAt(sign + 1) + n;
                    Check.lawWide(x, "at 44 " + e);
                    check.due("says by " + e, x.says(0, 0), Integer.compare(values[i], n) == sign ? 44 : NOTHING);
                    check.due("says by " + e + " of noughts", x.says(0, 1), sign < 0 ? 44 : NOTHING);
                    x.undo();
                }
            }
        }
    }

    private static void lastNear() {
        check.promise("near n (the last; 0 without)");
        String[] texts = {"at 5 m=0", "near 1;at 5 m=0", "at 5 m=0;near 4", "near 9;at 5 m=0;near 2", "near 0;near 3;at 5 m=0", "near 4;at 5 m=0;near 0", "near 99;at 5 m=0"};
        int[] near = {0, 1, 4, 2, 3, 0, 99};
        for (int i = 0; i < texts.length; i++) {
            RodDips x = new RodDips();
            for (int said = 0; said < 10; said++) x.tryout(0, 0, 0, 0, said);
            // What a fault left is not to be seen by the next law.
            check.due("a fault", Check.lawWide(x, "near 3;at 0 m=0;by 3 m=0;off 99 m<9;x"), -46);
            Check.lawWide(x, texts[i]);
            int had = 0;
            for (int said = 0; said < 10; said++) if (Math.abs(said - 5) <= near[i]) had++;
            check.due("fits of " + texts[i], x.fits(0, 1023), had);
        }
    }

    private static void noFartherThanNear() {
        check.promise("A LAW HAS a TRY, if SAID is no farther from that than near");
        RodDips x = new RodDips();
        x.barn(100);
        int[] saids = {0, 1, 47, 48, 50, 52, 53, 98, 99};
        for (int said : saids) x.tryout(0, 0, 0, 0, said);
        int[] nears = {0, 1, 2, 3, 48, 49, 50, 99};
        int[] had = {0b000010000, 0b000010000, 0b000111000, 0b001111100, 0b011111100, 0b111111110, 0b111111111, 0b111111111};
        for (int i = 0; i < nears.length; i++) {
            x.image();
            Check.lawWide(x, "near " + nears[i] + ";at 50 m=0");
            for (int t = 0; t < 9; t++) {
                check.due("fits of " + t + " by near " + nears[i], x.fits(0, 1 << t), had[i] >> t & 1);
                check.due("let of " + t + " by near " + nears[i], x.let(1 << t), had[i] >> t & 1);
            }
            x.undo();
        }
        keptPlaceIsMeant();
    }

    /** Nearness is that to the place as it is kept in the barn. */
    private static void keptPlaceIsMeant() {
        RodDips x = new RodDips();
        x.tryout(0, 0, 0, 8, 9);
        x.tryout(0, 0, 0, 1, 0);
        Check.law(x, "by 9 m=0");
        Check.law(x, "off 9 m=0");
        Check.law(x, "at 99 m=0");
        check.due("by 9", x.fits(0, 3), 1);
        check.due("off 9", x.fits(1, 3), 1);
        check.due("at 99", x.fits(2, 3), 1);
        check.due("cannot by 9", x.cannot(0), 1);
        check.due("cannot off 9", x.cannot(1), 0);
    }

    private static void nearOfAnyPlace() {
        check.promise("A LAW HAS a TRY of any place");
        RodDips x = new RodDips();
        x.tryout(0, 0, 0, 0, 9);
        x.tryout(0, 0, 0, 9, 0);
        x.tryout(0, 0, 0, 4, 5);
        Check.law(x, "near 0");
        Check.law(x, "at 3 m=1;near 0");
        for (int law = 0; law < 2; law++) {
            check.due("fits(" + law + ", 7)", x.fits(law, 7), 3);
            check.due("cannot(" + law + ")", x.cannot(law), NOTHING);
        }
        check.due("let(7)", x.let(7), 3);
    }

    private static void firstThatItHasNot() {
        check.promise("CAN'T: the first TRY that it hasn't (-5: it has all)");
        RodDips x = new RodDips();
        check.due("no law", x.cannot(0), NONE);
        Check.law(x, "at 5 m=1");
        check.due("no tries", x.cannot(0), NOTHING);
        for (int i = 0; i < 29; i++) {
            x.tryout(0, 0, 0, 0, 0);
            check.due("all of " + i, x.cannot(0), NOTHING);
        }
        x.tryout(1, 0, 0, 0, 4);
        check.due("just the last", x.cannot(0), 29);
        RodDips y = new RodDips();
        Check.law(y, "at 5 m=1");
        Check.law(y, "at 5 d=1;near 1");
        y.tryout(1, 0, 0, 0, 4);
        y.tryout(1, 1, 0, 0, 3);
        y.tryout(1, 1, 0, 0, 3);
        check.due("just the first", y.cannot(0), 0);
        check.due("of two the first", y.cannot(1), 1);
        for (int law : new int[] {-1, 2, 5, MIN, MAX}) check.due("cannot(" + law + ")", y.cannot(law), NONE);
    }

    private static void fitsOfSets() {
        check.promise("FITS: how many it has of a set. NONE; BAD");
        RodDips x = new RodDips();
        check.due("NONE is told ahead of BAD", x.fits(0, 1), NONE);
        check.due("no law", x.fits(0, 0), NONE);
        Check.law(x, "at 5 d>9");
        check.due("of no tries", x.fits(0, 0), 0);
        check.due("a bit of none", x.fits(0, 1), BAD);
        for (int i = 0; i < 30; i++) x.tryout(0, i, 0, 0, i % 10);
        // Ten any, and of twenty two said 5.
        int all = (1 << 30) - 1;
        check.due("all", x.fits(0, all), 12);
        check.due("none", x.fits(0, 0), 0);
        check.due("the last", x.fits(0, 1 << 29), 0);
        check.due("the first", x.fits(0, 1), 1);
        check.due("one that it has", x.fits(0, 1 << 25), 1);
        check.due("a bit behind", x.fits(0, 1 << 30), BAD);
        check.due("the sign", x.fits(0, MIN), BAD);
        check.due("all bits", x.fits(0, -1), BAD);
        check.due("all but the sign", x.fits(0, MAX), BAD);
        for (int law : new int[] {-1, 1, 5, MIN, MAX}) {
            check.due("fits(" + law + ", 0)", x.fits(law, 0), NONE);
            check.due("fits(" + law + ", -1)", x.fits(law, -1), NONE);
        }
    }

    private static void letOfSets() {
        check.promise("LET: LAWS that have all TRIES of a set. BAD");
        RodDips x = new RodDips();
        check.due("no laws, no tries", x.let(0), 0);
        check.due("a bit of none", x.let(1), BAD);
        for (int i = 0; i < 5; i++) Check.law(x, "at " + i + " m=0");
        check.due("no tries", x.let(0), 31);
        for (int said = 0; said < 5; said++) x.tryout(0, 0, 0, 0, said);
        x.tryout(1, 0, 0, 0, 0);
        check.due("no tries of some", x.let(0), 31);
        for (int i = 0; i < 5; i++) {
            check.due("one of try " + i, x.let(1 << i), 1 << i);
            check.due("with one that all have", x.let(1 << i | 32), 1 << i);
            check.due("with another", x.let(1 << i | 1 << (i + 1) % 5), 0);
        }
        check.due("what all have", x.let(32), 31);
        check.due("all", x.let(63), 0);
        for (int set : new int[] {64, 65, 1 << 30, MIN, -1, MAX}) check.due("let(" + set + ")", x.let(set), BAD);
    }

    private static void saysRefused() {
        check.promise("says: NONE");
        RodDips x = new RodDips();
        check.due("nothing there", x.says(0, 0), NONE);
        Check.law(x, "at 5 m=0");
        check.due("no try", x.says(0, 0), NONE);
        x.tryout(0, 0, 0, 0, 0);
        for (int n : new int[] {-1, 1, 5, 30, MIN, MAX}) {
            check.due("law " + n, x.says(n, 0), NONE);
            check.due("try " + n, x.says(0, n), NONE);
        }
        check.due("both there", x.says(0, 0), 5);
    }
}
