/** Counts the answers that are not as due, and puts texts on the tape. */
final class Check {
    private int wrong = 0;
    private String promise = "";

    void promise(String name) {
        promise = name;
    }

    void due(String call, long got, long want) {
        if (got == want) return;
        wrong++;
        System.out.println(promise + ": " + call + " answered " + got + ", due is " + want);
    }

    void dueText(String what, String got, String want) {
        if (got.equals(want)) return;
        wrong++;
        System.out.println(promise + ": " + what + " is " + got + ", due is " + want);
    }

    void dueNot(String call, long got, long... none) {
        for (long one : none) {
            if (got != one) continue;
            wrong++;
            System.out.println(promise + ": " + call + " answered " + got + ", which is not due");
        }
    }

    /** Both parts of a fraction. */
    void dueOf(String call, long above, long below, long wantAbove, long wantBelow) {
        due(call + " above", above, wantAbove);
        due(call + " below", below, wantBelow);
    }

    void end() {
        System.out.println(wrong == 0 ? "all answers are as due" : wrong + " answers are not as due");
        if (wrong != 0) System.exit(1);
    }

    static void feed(RodDips x, String text) {
        for (int i = 0; i < text.length(); i++) x.feed(text.charAt(i), 1);
    }

    /** The same with as few calls as can be. */
    static void feedWide(RodDips x, String text) {
        for (int from = 0; from < text.length(); from += 8) {
            int to = Math.min(text.length(), from + 8);
            long w = 0;
            for (int i = from; i < to; i++) w = w << 8 | text.charAt(i);
            x.feed(w, to - from);
        }
    }

    static int planWide(RodDips x, String text) {
        feedWide(x, text);
        return x.plan();
    }

    static int lawWide(RodDips x, String text) {
        feedWide(x, text);
        return x.law();
    }

    static int plan(RodDips x, String text) {
        feed(x, text);
        return x.plan();
    }

    static int law(RodDips x, String text) {
        feed(x, text);
        return x.law();
    }

    static String repeated(String text, int times) {
        StringBuilder all = new StringBuilder();
        for (int i = 0; i < times; i++) all.append(text);
        return all.toString();
    }
}
