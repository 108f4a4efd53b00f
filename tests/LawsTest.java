/** Promises 17 to 21: law, says, cannot, fits, let. */
public final class LawsTest {
    private static final Check check = new Check();

    public static void main(String[] args) {
        check.promise("17");
        law();
        full();
        check.promise("18");
        says();
        tests();
        before();
        check.promise("19 to 21");
        had();
        check.end();
    }

    private static void fault(String text, int place) {
        RodDips x = new RodDips();
        check.due("law() of '" + text + "'", Check.law(x, text), -10 - place);
        check.due("count(3) then", x.count(3), 0);
        check.due("count(4) then", x.count(4), 0);
    }

    private static void sound(String text) {
        RodDips x = new RodDips();
        check.due("law() of '" + text + "'", Check.law(x, text), 0);
        check.due("count(3) then", x.count(3), 1);
        check.due("count(2) then", x.count(2), 0);
        check.due("count(4) then", x.count(4), 0);
    }

    private static void law() {
        sound("near 0");
        sound("at 0 m=1");
        sound("by 10 !p<3|l=10");
        sound("off 99 (k=1&d=2);near 99;at 1 m=1");
        sound("at 1 !!!!!p=1");
        sound(Check.repeated("near 1;", 7) + "near 2");
        fault(Check.repeated("near 1;", 7) + "near 2;near 1", 55);
        fault("", 0);
        fault("hit 1", 0);
        fault("need 1", 2);
        fault("take m=1", 0);
        fault("drop m=1", 0);
        fault("a", 1);
        fault("ay", 1);
        fault("at m=1", 3);
        fault("at 5", 4);
        fault("at 5;", 4);
        fault("at 05 m=1", 4);
        fault("at 100 m=1", 5);
        fault("at 5 ", 5);
        fault("at 5  m=1", 5);
        fault("at 5 t=1", 5);
        fault("at 5 x=1", 5);
        fault("at 5 s=1", 5);
        fault("at 5 n=1", 5);
        fault("by 5 p=1 ", 8);
        fault("of 5 p=1", 2);
        fault("off 5 p=1;", 10);
        fault("at 1 l=100", 9);
        fault("at 1 !!!!!!p=1", 10);
        fault("near 5 m=1", 6);
        fault("near 1;", 7);
    }

    private static void full() {
        RodDips x = new RodDips();
        for (int i = 0; i < 5; i++) check.due("the " + i + "th", Check.law(x, "near 1"), i);
        check.due("the 5th", Check.law(x, "near 1"), -4);
        check.due("the tape stays", x.count(4), 6);
        check.due("count(3)", x.count(3), 5);
        check.due("a plan of it", x.plan(), -12);
    }

    private static void says() {
        RodDips x = new RodDips();
        x.tryout(0, 1, 2, 5, 6);
        x.tryout(1, 2, 3, 1, 0);
        x.tryout(0, 3, 4, 9, 9);
        check.due("no law", x.says(0, 0), -1);
        Check.law(x, "at 3 m=1;by 2 d<9;at 7 d<9");
        Check.law(x, "off 3 d<9");
        Check.law(x, "at 99 d<2;near 2;off 0 m=0;by 0 k=5");
        Check.law(x, "by 99 p=1;near 0");
        int[][] want = {{7, 3, 9}, {2, 0, 6}, {9, -5, 9}, {-5, 9, -5}};
        for (int law = 0; law < 4; law++) {
            for (int i = 0; i < 3; i++) check.due("says(" + law + ", " + i + ")", x.says(law, i), want[law][i]);
        }
        check.due("law 4", x.says(4, 0), -1);
        Check.law(x, "at 1 k=9;at 1 k=9;at 1 k=9;at 1 k=9;at 1 k=9;at 1 k=9;at 2 k=4;at 3 k<9");
        check.due("the last of eight", x.says(4, 0), 3);
        check.due("the one before", x.says(4, 2), 2);
        check.due("law -1", x.says(-1, 0), -1);
        check.due("try 3", x.says(0, 3), -1);
        check.due("try -1", x.says(0, -1), -1);
    }

    private static void holds(String e, int bits) {
        RodDips x = new RodDips();
        x.tryout(0, 1, 2, 5, 6);
        x.tryout(1, 2, 3, 1, 0);
        x.tryout(0, 3, 4, 9, 9);
        check.due("law() of '" + e + "'", Check.law(x, "at 8 " + e), 0);
        for (int i = 0; i < 3; i++) {
            check.due("says by '" + e + "' of " + i, x.says(0, i), (bits >> i & 1) == 1 ? 8 : -5);
        }
    }

    private static void tests() {
        holds("p=5", 0b001);
        holds("p>4", 0b101);
        holds("d<3", 0b011);
        holds("k=3", 0b010);
        holds("k>3", 0b100);
        holds("m=0", 0b101);
        holds("m=1", 0b010);
        holds("l=6", 0b100);
        holds("l>99", 0b011);
        holds("l<99", 0b100);
        holds("!p=5&m=0|k=3", 0b110);
    }

    private static void before() {
        RodDips x = new RodDips();
        x.barn(100);
        x.tryout(0, 9, 0, 0, 99);
        x.tryout(1, 8, 0, 0, 3);
        x.tryout(0, 7, 0, 0, 4);
        x.tryout(1, 6, 0, 0, 5);
        x.tryout(0, 5, 0, 0, 6);
        Check.law(x, "at 1 l=99;at 2 l>99;at 3 l=3;at 4 l=4");
        x.tryout(0, 4, 0, 0, 7);
        int[] want = {2, 2, 1, 3, 4, -5};
        for (int i = 0; i < 6; i++) check.due("says of " + i, x.says(0, i), want[i]);
    }

    private static void had() {
        RodDips x = new RodDips();
        check.due("no law", x.cannot(0), -1);
        check.due("no law", x.fits(0, 0), -1);
        check.due("no law", x.fits(0, 1), -1);
        check.due("no law lets", x.let(0), 0);
        check.due("a fault", Check.law(x, "near 9;x"), -17);
        Check.law(x, "at 5 m=0;by 0 m=1;near 4;near 1");
        Check.law(x, "off 3 d=3");
        Check.law(x, "at 0 m<9");
        check.due("all of no tries", x.cannot(2), -5);
        check.due("no tries", x.let(0), 7);
        x.tryout(0, 0, 0, 0, 4);
        x.tryout(0, 0, 0, 0, 6);
        x.tryout(2, 3, 0, 8, 5);
        x.tryout(0, 0, 0, 0, 7);
        x.tryout(1, 0, 0, 9, 7);
        // The first has 0, 1, 2; the next has all; the last has none.
        check.due("cannot(0)", x.cannot(0), 3);
        check.due("cannot(1)", x.cannot(1), -5);
        check.due("cannot(2)", x.cannot(2), 0);
        check.due("cannot(3)", x.cannot(3), -1);
        check.due("cannot(-1)", x.cannot(-1), -1);
        check.due("fits(0, 31)", x.fits(0, 31), 3);
        check.due("fits(0, 20)", x.fits(0, 20), 1);
        check.due("fits(0, 0)", x.fits(0, 0), 0);
        check.due("fits(1, 31)", x.fits(1, 31), 5);
        check.due("fits(0, 32)", x.fits(0, 32), -2);
        check.due("fits(0, -1)", x.fits(0, -1), -2);
        check.due("fits(3, 32)", x.fits(3, 32), -1);
        check.due("let(31)", x.let(31), 2);
        check.due("let(7)", x.let(7), 3);
        check.due("let(0)", x.let(0), 7);
        check.due("let(32)", x.let(32), -2);
        check.due("let(MIN)", x.let(Integer.MIN_VALUE), -2);
        Check.law(x, "near 9;near 7;near 0;x");
        Check.law(x, "at 5 k=0");
        check.due("near without", x.fits(3, 31), 1);
        Check.law(x, "near 9;at 5 k=0;near 1");
        check.due("the last near", x.fits(4, 31), 3);
    }
}
