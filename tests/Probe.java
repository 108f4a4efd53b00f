/** Objects made by the same calls, and all that can be seen of one: two that differ somewhere tell different texts. */
final class Probe {
    enum Recipe { EMPTY, HALF, LONG_TAPE, FULL }

    /** A part each needs an object of its own, as one is used for 512 calls at most. */
    static final int PARTS = 4;
    static final String LONG_TEXT = "take " + Check.repeated("m=1|", 28) + "m=2";

    static RodDips made(Recipe recipe) {
        RodDips x = new RodDips();
        if (recipe == Recipe.HALF || recipe == Recipe.LONG_TAPE) half(x);
        if (recipe == Recipe.LONG_TAPE) {
            x.plan();
            Check.feedWide(x, LONG_TEXT);
        }
        if (recipe == Recipe.FULL) full(x);
        return x;
    }

    /** Six tries, two plans, two laws, a tape that is a plan, an image of four tries and a trace. */
    private static void half(RodDips x) {
        x.barn(20);
        for (int i = 0; i < 4; i++) x.tryout(i % 3, 10 * i, i + 1, 3 * i, 2 * i + 1);
        x.excuse(1, 2);
        x.excuse(2, 1);
        Check.planWide(x, "hit 2;need 2;take m<4");
        Check.lawWide(x, "by 1 d<20;near 1;at 7 m=2");
        Check.feedWide(x, "hit 1");
        x.image();
        x.tryout(5, 99, 6, 19, 0);
        x.tryout(1, 0, 4, 0, 19);
        x.excuse(1, 0);
        x.excuse(3, 1);
        Check.feedWide(x, "2;drop t=1");
        x.plan();
        Check.lawWide(x, "off 3 l>99");
        Check.feedWide(x, "hit 7;take k>1");
        x.act(5, 2, 9);
    }

    /** All that may be kept is kept: 30 tries, five plans, five laws, 120 bytes. */
    private static void full(RodDips x) {
        x.barn(100);
        for (int i = 0; i < 29; i++) x.tryout(i % 6, i, i % 7, 3 * i, 99 - 2 * i);
        for (int i = 0; i < 4; i++) Check.planWide(x, "hit " + 20 * i + ";take t<8");
        for (int i = 0; i < 4; i++) Check.lawWide(x, "off " + i + " m=" + i);
        Check.feedWide(x, "hit 9");
        x.image();
        x.plan();
        x.tryout(5, 99, 6, 99, 0);
        Check.lawWide(x, "near 9;at 5 l>90");
        x.excuse(29, 2);
        Check.feedWide(x, LONG_TEXT);
        x.act(4, 2, 9);
    }

    static int tries(Recipe recipe) {
        return recipe == Recipe.EMPTY ? 0 : recipe == Recipe.FULL ? 30 : 6;
    }

    static int plans(Recipe recipe) {
        return recipe == Recipe.EMPTY ? 0 : recipe == Recipe.FULL ? 5 : recipe == Recipe.HALF ? 2 : 3;
    }

    static int laws(Recipe recipe) {
        return recipe == Recipe.EMPTY ? 0 : recipe == Recipe.FULL ? 5 : 2;
    }

    static int places(Recipe recipe) {
        return recipe == Recipe.EMPTY ? 10 : recipe == Recipe.FULL ? 100 : 20;
    }

    static int bytes(Recipe recipe) {
        return recipe == Recipe.EMPTY ? 0 : recipe == Recipe.HALF ? 14 : 120;
    }

    /** How many bodies ran at last. */
    static int ran(Recipe recipe) {
        return recipe == Recipe.EMPTY ? 0 : 6;
    }

    /** What a part tells; the object is used up by it. */
    static String seen(RodDips x, int part) {
        StringBuilder all = new StringBuilder();
        if (part == 0) {
            for (int what = 0; what < 6; what++) all.append(x.count(what)).append(' ');
            for (int i = 0; i < 21; i++) all.append(x.trace(i)).append(' ');
            tries(x, all);
        }
        if (part == 1) texts(x, all);
        if (part == 2) tape(x, all);
        if (part == 3) {
            all.append("undone: ").append(x.undo()).append(' ');
            for (int what = 0; what < 5; what++) all.append(x.count(what)).append(' ');
            tries(x, all);
            tape(x, all);
        }
        return all.toString();
    }

    private static void tries(RodDips x, StringBuilder all) {
        int count = x.count(1);
        for (int i = 0; i < count; i++) {
            for (int what = 0; what < 7; what++) all.append(x.of(i, what)).append(' ');
        }
    }

    private static void texts(RodDips x, StringBuilder all) {
        int tries = x.count(1), plans = x.count(2), laws = x.count(3);
        for (int plan = 0; plan < plans; plan++) {
            for (int what = 0; what < 4; what++) all.append(x.told(plan, what)).append(' ');
            for (int man = 0; man < 6; man++) all.append(x.fixed(plan, man)).append(' ').append(x.afterwards(plan, man)).append(' ');
            all.append(x.passes(plan)).append(' ').append(x.beats(plan)).append(' ').append(x.otherwise(plan)).append(' ');
        }
        for (int law = 0; law < laws; law++) {
            all.append("law ").append(x.cannot(law)).append(' ').append(x.fits(law, (1 << tries) - 1)).append(' ');
            for (int i = 0; i < tries; i++) all.append(x.says(law, i)).append(' ');
        }
    }

    private static void tape(RodDips x, StringBuilder all) {
        all.append("tape ").append(x.count(4)).append(' ').append(x.plan()).append(' ').append(x.count(4)).append(' ');
        for (int what = 0; what < 4; what++) all.append(x.told(x.count(2) - 1, what)).append(' ');
        all.append(x.barn(7)).append(' ').append(x.law()).append(' ').append(x.count(4));
    }
}
