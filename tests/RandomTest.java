import java.util.Random;

/** Runs of 512 calls each, of right and wrong numbers, against the model. */
public final class RandomTest {
    private static final int RUNS = 400, CALLS = 512;
    private final Check check;
    private final Random random;
    private final int run;
    private final RodDips x = new RodDips();
    private final Model model = new Model();
    private final int manSpread;
    private final int triesLikely;
    private String waiting = "";
    private int calls = 0;

    private RandomTest(Check check, int run) {
        this.check = check;
        this.run = run;
        this.random = new Random(run);
        this.manSpread = 1 + random.nextInt(6);
        this.triesLikely = 1 + random.nextInt(4);
    }

    public static void main(String[] args) {
        Check check = new Check();
        for (int run = 0; run < RUNS; run++) {
            check.promise("run " + run);
            new RandomTest(check, run).play();
        }
        check.end();
    }

    private void play() {
        if (random.nextInt(5) > 0) {
            int n = random.nextBoolean() ? 2 + random.nextInt(99) : 2 + random.nextInt(12);
            due("barn(" + n + ")", x.barn(n), model.barn(n));
        }
        // A step makes two calls at most.
        while (calls < CALLS - 1) {
            int which = random.nextInt(10);
            if (!waiting.isEmpty()) feedWaiting();
            else if (which < triesLikely) change();
            else if (which < 5) text();
            else if (which < 8) ask();
            else askMore();
        }
    }

    /** Mostly a number of from .. to, at times one beside, at times any. */
    private int n(int from, int to) {
        int odd = random.nextInt(40);
        if (odd == 0) return from - 1;
        if (odd == 1) return to + 1;
        if (odd == 2) return random.nextInt();
        return to < from ? from : from + random.nextInt(to - from + 1);
    }

    private int place() {
        return n(0, model.count(0) - 1);
    }

    private int tryNumber() {
        return n(0, model.count(1) - 1);
    }

    private int planNumber() {
        return n(0, model.count(2) - 1);
    }

    private int lawNumber() {
        return n(0, model.count(3) - 1);
    }

    private int set() {
        int count = model.count(1);
        int all = (1 << count) - 1;
        int set = random.nextInt() & all;
        while (Integer.bitCount(set) > 9 && random.nextInt(6) > 0) set &= random.nextInt();
        int odd = random.nextInt(30);
        return odd == 0 ? set | 1 << random.nextInt(32) : odd == 1 ? random.nextInt() : set;
    }

    private void due(String call, long got, long want) {
        calls++;
        check.due(call, got, want);
    }

    private void change() {
        switch (random.nextInt(12)) {
            case 0: { int a = n(2, 100); due("barn(" + a + ")", x.barn(a), model.barn(a)); break; }
            case 1: case 2: { int a = tryNumber(), b = n(0, 2); due("excuse(" + a + ", " + b + ")", x.excuse(a, b), model.excuse(a, b)); break; }
            case 3: if (random.nextInt(3) == 0) due("image()", x.image(), model.image()); break;
            case 4: if (random.nextInt(6) == 0) due("undo()", x.undo(), model.undo()); break;
            default: {
                int a = n(0, manSpread - 1), b = n(0, 99), c = n(0, 6), d = place(), e = place();
                if (random.nextInt(3) == 0) e = Math.max(0, Math.min(model.count(0) - 1, d + random.nextInt(5) - 2));
                due("tryout(" + a + ", " + b + ", " + c + ", " + d + ", " + e + ")", x.tryout(a, b, c, d, e), model.tryout(a, b, c, d, e));
            }
        }
    }

    private void feedWaiting() {
        int n = Math.min(waiting.length(), 1 + random.nextInt(8));
        long w = random.nextLong();
        for (int i = 0; i < n; i++) w = w << 8 | waiting.charAt(i);
        waiting = waiting.substring(n);
        due("feed(" + w + ", " + n + ")", x.feed(w, n), model.feed(w, n));
        if (waiting.isEmpty()) endText();
    }

    private void endText() {
        int which = random.nextInt(10);
        if (which == 0) return;
        if (which == 1 ^ isLawText) due("law()", x.law(), model.law());
        else due("plan()", x.plan(), model.plan());
    }

    private boolean isLawText = false;

    private void text() {
        int which = random.nextInt(12);
        if (which == 0) due("plan()", x.plan(), model.plan());
        else if (which == 1) due("law()", x.law(), model.law());
        else if (which == 2) { long w = random.nextLong(); int n = n(1, 8); due("feed(" + w + ", " + n + ")", x.feed(w, n), model.feed(w, n)); }
        else {
            // Short of calls, most texts go in while there is room for them.
            if (model.count(2) == 5 && model.count(3) == 5 && random.nextInt(8) > 0) return;
            isLawText = random.nextBoolean();
            waiting = madeText(isLawText);
        }
    }

    private String madeText(boolean law) {
        StringBuilder text = new StringBuilder();
        int clauses = random.nextInt(20) == 0 ? 9 : 1 + random.nextInt(4);
        for (int i = 0; i < clauses && text.length() < 100; i++) {
            if (i > 0) text.append(';');
            text.append(law ? lawClause() : planClause());
        }
        if (random.nextInt(4) == 0) spoil(text);
        return text.substring(0, Math.min(text.length(), 120 - Math.min(119, model.count(4))));
    }

    private void spoil(StringBuilder text) {
        String signs = "!()&|;<=> 019mdkxtsnplhit\u0000\u00ff";
        int at = random.nextInt(text.length() + 1);
        char sign = signs.charAt(random.nextInt(signs.length()));
        int how = random.nextInt(4);
        if (how == 0) text.insert(at, sign);
        else if (how == 1 && at < text.length()) text.deleteCharAt(at);
        else if (how == 2 && at < text.length()) text.setCharAt(at, sign);
        else text.setLength(at);
    }

    private String planClause() {
        int which = random.nextInt(6);
        if (which < 2) return "hit " + random.nextInt(random.nextBoolean() ? 4 : 20);
        if (which == 2) return "need " + random.nextInt(4);
        return (which == 3 ? "take " : "drop ") + (which == 3 ? e("mdkxtsn", 0) : t("mdkxtsn", 0));
    }

    private String lawClause() {
        int which = random.nextInt(5);
        if (which == 0) return "near " + random.nextInt(random.nextBoolean() ? 6 : 60);
        int n = random.nextInt(random.nextBoolean() ? 8 : 100);
        return (which == 1 ? "at " : which == 2 ? "by " : "off ") + n + " " + e("pdkml", 0);
    }

    private String e(String letters, int depth) {
        String e = t(letters, depth);
        for (int i = random.nextInt(3); i > 1; i--) e += "|" + t(letters, depth);
        return e;
    }

    private String t(String letters, int depth) {
        String t = f(letters, depth);
        for (int i = random.nextInt(3); i > 1; i--) t += "&" + f(letters, depth);
        return t;
    }

    private String f(String letters, int depth) {
        int which = random.nextInt(6);
        if (which == 0 && depth < 6) return "!" + f(letters, depth + 1);
        if (which == 1 && depth < 6) return "(" + e(letters, depth + 1) + ")";
        char letter = letters.charAt(random.nextInt(letters.length()));
        int most = letter == 'x' ? 3 : letter == 'm' || letter == 'k' ? 7 : letter == 't' ? 30 : letter == 'd' ? 100 : model.count(0);
        return "" + letter + "<=>".charAt(random.nextInt(3)) + random.nextInt(Math.min(100, most));
    }

    private void ask() {
        int a = planNumber(), b = n(0, 5), part = n(0, 1), k = n(0, random.nextBoolean() ? 9 : 2), what = n(0, 1);
        switch (random.nextInt(12)) {
            case 0: { int c = tryNumber(), d = n(0, 6); due("of(" + c + ", " + d + ")", x.of(c, d), model.of(c, d)); break; }
            case 1: { int c = n(0, 3); due("told(" + a + ", " + c + ")", x.told(a, c), model.told(a, c)); break; }
            case 2: due("passes(" + a + ")", x.passes(a), model.passes(a)); break;
            case 3: { int c = tryNumber(); due("chance(" + a + ", " + c + ", " + part + ")", x.chance(a, c, part), model.chance(a, c, part)); break; }
            case 4: case 5: {
                int c = set();
                due("odds(" + a + ", " + c + ", " + k + ", " + what + ", " + part + ")", x.odds(a, c, k, what, part), model.odds(a, c, k, what, part));
                break;
            }
            case 6: case 7: due("best(" + a + ", " + k + ", " + what + ", " + part + ")", x.best(a, k, what, part), model.best(a, k, what, part)); break;
            case 8: due("fixed(" + a + ", " + b + ")", x.fixed(a, b), model.fixed(a, b)); break;
            case 9: due("beats(" + a + ")", x.beats(a), model.beats(a)); break;
            case 10: due("otherwise(" + a + ")", x.otherwise(a), model.otherwise(a)); break;
            default: due("afterwards(" + a + ", " + b + ")", x.afterwards(a, b), model.afterwards(a, b));
        }
    }

    private void askMore() {
        int a = lawNumber(), b = tryNumber(), set = set(), p = planNumber();
        switch (random.nextInt(14)) {
            case 0: due("says(" + a + ", " + b + ")", x.says(a, b), model.says(a, b)); break;
            case 1: due("cannot(" + a + ")", x.cannot(a), model.cannot(a)); break;
            case 2: due("fits(" + a + ", " + set + ")", x.fits(a, set), model.fits(a, set)); break;
            case 3: due("let(" + set + ")", x.let(set), model.let(set)); break;
            case 4: fair(); break;
            case 5: case 6: {
                int m = n(0, 5), what = n(0, 2), share = n(0, 100);
                due("excuses(" + p + ", " + m + ", " + what + ", " + share + ")", x.excuses(p, m, what, share), model.excuses(p, m, what, share));
                break;
            }
            case 7: { int c = n(0, 1000), n = n(0, 5), part = n(0, 1); due("field(" + c + ", " + n + ", " + part + ")", x.field(c, n, part), model.field(c, n, part)); break; }
            case 8: { int c = n(0, 1000), q = n(1, 99); due("holes(" + c + ", " + q + ")", x.holes(c, q), model.holes(c, q)); break; }
            case 9: { int g = n(0, 9), l = n(-99, 99), h = n(0, 999); due("rod(" + g + ", " + l + ", " + h + ")", x.rod(g, l, h), model.rod(g, l, h)); break; }
            case 10: { int q = planNumber(), what = n(0, 2); due("papers(" + p + ", " + q + ", " + what + ")", x.papers(p, q, what), model.papers(p, q, what)); break; }
            case 11: act(b); break;
            case 12: { int k = n(0, 6); due("as(" + b + ", " + k + ")", x.as(b, k), model.as(b, k)); break; }
            default: { int what = n(0, 5); due("count(" + what + ")", x.count(what), model.count(what)); }
        }
    }

    private void fair() {
        int h = random.nextBoolean() ? n(0, 2) : n(0, 99), s = place(), f = n(0, 100), a = n(0, 100), b = n(0, 100);
        due("fair(" + h + ", " + s + ", " + f + ", " + a + ", " + b + ")", x.fair(h, s, f, a, b), model.fair(h, s, f, a, b));
    }

    private void act(int tryout) {
        int act = n(0, 2), arg = random.nextBoolean() ? random.nextInt(20) : random.nextInt();
        due("act(" + tryout + ", " + act + ", " + arg + ")", x.act(tryout, act, arg), model.act(tryout, act, arg));
        int i = n(0, 6);
        due("trace(" + i + ")", x.trace(i), model.trace(i));
    }
}
