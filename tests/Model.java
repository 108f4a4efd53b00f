import java.math.BigInteger;
import java.util.ArrayList;
import java.util.List;

/** The document once more, in the plainest form and by other ways: texts cut at their joins, odds by every outcome. */
final class Model {
    static final long NO = Long.MIN_VALUE;
    private static final int[] ABOVE = {-1, 0, 0, 0, 2, 2, 3};
    private static final String[] NAMES = {"TRY", "FIELD", "BARN", "SEEN", "MIDDLE", "BOXED", "WARM"};

    private record Attempt(int man, int day, int kind, int pipe, int said, int excused) {
        int near() {
            return Math.abs(said - pipe);
        }

        Attempt excusedBy(int n) {
            return new Attempt(man, day, kind, pipe, said, n);
        }
    }

    private record All(int places, List<Attempt> tries, List<String> plans, List<String> laws, String tape) { }

    private All now = new All(10, new ArrayList<>(), new ArrayList<>(), new ArrayList<>(), "");
    private All taken = null;
    private final List<Integer> ran = new ArrayList<>();

    private static All copy(All all) {
        return new All(all.places, new ArrayList<>(all.tries), new ArrayList<>(all.plans), new ArrayList<>(all.laws), all.tape);
    }

    private void tape(String text) {
        now = new All(now.places, now.tries, now.plans, now.laws, text);
    }

    private boolean isTry(int i) {
        return i >= 0 && i < now.tries.size();
    }

    private boolean isPlan(int i) {
        return i >= 0 && i < now.plans.size();
    }

    private boolean isLaw(int i) {
        return i >= 0 && i < now.laws.size();
    }

    private boolean within(int n, int from, int to) {
        return n >= from && n <= to;
    }

    // ---- barns, tries

    int barn(int n) {
        if (!within(n, 2, 100)) return -2;
        if (!now.tries.isEmpty()) return -3;
        int before = now.places;
        now = new All(n, now.tries, now.plans, now.laws, now.tape);
        return before;
    }

    int tryout(int man, int day, int kind, int pipe, int said) {
        int last = now.places - 1;
        if (!within(man, 0, 5) || !within(kind, 0, 6) || !within(pipe, 0, last) || !within(said, 0, last)) return -1;
        if (!within(day, 0, 99)) return -2;
        if (now.tries.size() == 30) return -4;
        now.tries.add(new Attempt(man, day, kind, pipe, said, 0));
        return now.tries.size() - 1;
    }

    int excuse(int tryout, int n) {
        if (!isTry(tryout)) return -1;
        if (!within(n, 0, 2)) return -2;
        Attempt old = now.tries.get(tryout);
        now.tries.set(tryout, old.excusedBy(n));
        return old.excused;
    }

    int of(int tryout, int what) {
        if (!isTry(tryout) || !within(what, 0, 6)) return -1;
        Attempt t = now.tries.get(tryout);
        return new int[] {t.man, t.day, t.kind, t.pipe, t.said, t.excused, t.near()}[what];
    }

    // ---- texts

    int feed(long w, int n) {
        if (!within(n, 1, 8)) return -2;
        if (now.tape.length() + n > 120) return -4;
        StringBuilder text = new StringBuilder(now.tape);
        for (int i = n - 1; i >= 0; i--) text.append((char) (w >> 8 * i & 255));
        tape(text.toString());
        return text.length();
    }

    int plan() {
        return read(now.plans, "mdkxtsn", new String[] {"hit ", "need ", "take ", "drop "});
    }

    int law() {
        return read(now.laws, "pdkml", new String[] {"at ", "by ", "off ", "near "});
    }

    private int read(List<String> texts, String letters, String[] words) {
        if (texts.size() == 5) return -4;
        String text = now.tape;
        tape("");
        int fault = new Automaton(letters, words).fault(text);
        if (fault >= 0) return -10 - fault;
        texts.add(text);
        return texts.size() - 1;
    }

    /** Goes byte by byte; what is open stands in a text of ( and !. */
    private static final class Automaton {
        private final String letters;
        private final String[] words;
        private String state = "clause";
        private String word = "";
        private String open = "";
        private int clauses = 0;

        Automaton(String letters, String[] words) {
            this.letters = letters;
            this.words = words;
        }

        int fault(String text) {
            for (int i = 0; i < text.length(); i++) {
                if (!goes(text.charAt(i))) return i;
            }
            boolean behindNumber = state.equals("toldEnd") || state.equals("toldDigit");
            boolean behindE = List.of("testEnd", "testDigit", "closed").contains(state) && open.replace("!", "").isEmpty();
            return behindNumber || behindE ? -1 : text.length();
        }

        private boolean goes(char c) {
            switch (state) {
                case "clause": return word(c);
                case "told": return digit(c, "toldDigit", "toldEnd");
                case "toldDigit": if (c >= '0' && c <= '9') { state = "toldEnd"; return true; } return next(c);
                case "toldEnd": return next(c);
                case "number": return digit(c, "numberDigit", "numberEnd");
                case "numberDigit": if (c >= '0' && c <= '9') { state = "numberEnd"; return true; } return blank(c);
                case "numberEnd": return blank(c);
                case "factor": return factor(c);
                case "sign": state = "testNumber"; return c == '<' || c == '=' || c == '>';
                case "testNumber": return digit(c, "testDigit", "testEnd");
                case "testDigit": if (c >= '0' && c <= '9') { state = "testEnd"; return true; } return join(c);
                default: return join(c);
            }
        }

        private boolean word(char c) {
            word += c;
            for (String one : words) {
                if (!one.startsWith(word)) continue;
                if (one.equals(word)) {
                    boolean told = one.equals("hit ") || one.equals("need ") || one.equals("near ");
                    boolean law = one.length() < 5 && !told;
                    state = told ? "told" : law ? "number" : "factor";
                    word = "";
                    clauses++;
                }
                return true;
            }
            return false;
        }

        private boolean digit(char c, String more, String end) {
            state = c == '0' ? end : more;
            return c >= '0' && c <= '9';
        }

        private boolean blank(char c) {
            state = "factor";
            return c == ' ';
        }

        private boolean factor(char c) {
            if (c == '!' || c == '(') {
                open += c;
                return open.length() <= 5;
            }
            state = "sign";
            return letters.indexOf(c) >= 0;
        }

        private boolean next(char c) {
            state = "clause";
            return c == ';' && clauses < 8;
        }

        private boolean join(char c) {
            while (open.endsWith("!")) open = open.substring(0, open.length() - 1);
            if (c == ')') {
                if (!open.endsWith("(")) return false;
                open = open.substring(0, open.length() - 1);
                state = "closed";
                return true;
            }
            if (c == '&' || c == '|') {
                state = "factor";
                return true;
            }
            return open.isEmpty() && next(c);
        }
    }

    private static List<String> cut(String e, char at) {
        List<String> parts = new ArrayList<>();
        int depth = 0, from = 0;
        for (int i = 0; i < e.length(); i++) {
            if (e.charAt(i) == '(') depth++;
            if (e.charAt(i) == ')') depth--;
            if (e.charAt(i) == at && depth == 0) {
                parts.add(e.substring(from, i));
                from = i + 1;
            }
        }
        parts.add(e.substring(from));
        return parts;
    }

    private boolean holds(String e, int tryout) {
        List<String> terms = cut(e, '|');
        if (terms.size() > 1) return terms.stream().anyMatch(term -> holds(term, tryout));
        List<String> factors = cut(e, '&');
        if (factors.size() > 1) return factors.stream().allMatch(factor -> holds(factor, tryout));
        if (e.startsWith("!")) return !holds(e.substring(1), tryout);
        if (e.startsWith("(")) return holds(e.substring(1, e.length() - 1), tryout);
        int value = value(e.charAt(0), tryout), number = Integer.parseInt(e.substring(2));
        return e.charAt(1) == '<' ? value < number : e.charAt(1) == '=' ? value == number : value > number;
    }

    private int value(char letter, int tryout) {
        Attempt t = now.tries.get(tryout);
        switch (letter) {
            case 'm': return t.man;
            case 'd': return t.day;
            case 'k': return t.kind;
            case 'x': return t.excused;
            case 't': return tryout;
            case 's': return t.said;
            case 'n': return t.near();
            case 'p': return t.pipe;
            default:
                int before = 100;
                for (int i = 0; i < tryout; i++) if (now.tries.get(i).man == t.man) before = now.tries.get(i).said;
                return before;
        }
    }

    private static int last(String text, String word, int without) {
        int n = without;
        for (String clause : text.split(";")) if (clause.startsWith(word)) n = Integer.parseInt(clause.substring(word.length()));
        return n;
    }

    private int hit(int plan) {
        return last(now.plans.get(plan), "hit ", 0);
    }

    private boolean counted(int plan, int i) {
        boolean take = false, taken = false;
        for (String clause : now.plans.get(plan).split(";")) {
            if (clause.startsWith("take ")) {
                take = true;
                taken |= holds(clause.substring(5), i);
            }
            if (clause.startsWith("drop ") && holds(clause.substring(5), i)) return false;
        }
        return taken || !take;
    }

    /** The numbers of the counted tries, of one man or of all (-1). */
    private List<Integer> counted(int plan, int man, boolean hitsOnly) {
        List<Integer> all = new ArrayList<>();
        for (int i = 0; i < now.tries.size(); i++) {
            Attempt t = now.tries.get(i);
            if ((man < 0 || t.man == man) && counted(plan, i) && (!hitsOnly || t.near() <= hit(plan))) all.add(i);
        }
        return all;
    }

    private List<Integer> countedOf(int plan, int man) {
        return counted(plan, man, false);
    }

    private static int bits(List<Integer> all) {
        int bits = 0;
        for (int i : all) bits |= 1 << i;
        return bits;
    }

    int told(int plan, int what) {
        if (!isPlan(plan) || !within(what, 0, 3)) return -1;
        if (what == 0) return hit(plan);
        if (what == 1) return last(now.plans.get(plan), "need ", 1);
        return bits(counted(plan, -1, what == 3));
    }

    int passes(int plan) {
        if (!isPlan(plan)) return -1;
        int men = 0;
        for (int man = 0; man < 6; man++) if (counted(plan, man, true).size() >= told(plan, 1)) men += 1 << man;
        return men;
    }

    // ---- odds

    private static long part(BigInteger above, BigInteger below, int part) {
        if (part != 0 && part != 1) return NO;
        BigInteger divisor = above.gcd(below);
        return (part == 0 ? above : below).divide(divisor).longValueExact();
    }

    private int chanceOf(int said, int hit) {
        int n = 0;
        for (int place = 0; place < now.places; place++) if (Math.abs(place - said) <= hit) n++;
        return n;
    }

    /** In how many ways just k of these are hits: every outcome is looked at. */
    private static BigInteger ways(List<Integer> chances, int cases, int from, int to) {
        BigInteger sum = BigInteger.ZERO;
        for (int outcome = 0; outcome < 1 << chances.size(); outcome++) {
            int hits = Integer.bitCount(outcome);
            if (hits < from || hits > to) continue;
            BigInteger one = BigInteger.ONE;
            for (int i = 0; i < chances.size(); i++) {
                int n = (outcome >> i & 1) == 1 ? chances.get(i) : cases - chances.get(i);
                one = one.multiply(BigInteger.valueOf(n));
            }
            sum = sum.add(one);
        }
        return sum;
    }

    private List<Integer> chances(List<Integer> tries, int hit) {
        List<Integer> all = new ArrayList<>();
        for (int i : tries) all.add(chanceOf(now.tries.get(i).said, hit));
        return all;
    }

    private BigInteger allWays(int n) {
        return BigInteger.valueOf(now.places).pow(n);
    }

    private long odds(List<Integer> tries, int hit, int from, int to, int part) {
        return part(ways(chances(tries, hit), now.places, from, to), allWays(tries.size()), part);
    }

    private List<Integer> set(int bits) {
        List<Integer> all = new ArrayList<>();
        for (int i = 0; i < 32; i++) if ((bits >>> i & 1) == 1) all.add(i);
        return all;
    }

    private boolean isSet(int bits) {
        return set(bits).stream().allMatch(this::isTry);
    }

    long chance(int plan, int tryout, int part) {
        if (!isPlan(plan) || !isTry(tryout)) return NO;
        return odds(List.of(tryout), hit(plan), 1, 1, part);
    }

    long odds(int plan, int tries, int k, int what, int part) {
        if (!isPlan(plan) || !isSet(tries) || !within(k, 0, 9) || !within(what, 0, 1)) return NO;
        if (set(tries).size() > 9) return NO;
        return odds(set(tries), hit(plan), k, what == 1 ? k : 99, part);
    }

    long best(int plan, int k, int what, int part) {
        if (!isPlan(plan) || !within(k, 0, 9) || !within(what, 0, 1)) return NO;
        if (what == 1) return alone(plan, k, part);
        int n = countedOf(plan, -1).size();
        if (n > 9) return NO;
        BigInteger none = BigInteger.ONE;
        for (int man = 0; man < 6; man++) {
            none = none.multiply(ways(chances(countedOf(plan, man), hit(plan)), now.places, 0, k - 1));
        }
        return part(allWays(n).subtract(none), allWays(n), part);
    }

    private long alone(int plan, int k, int part) {
        int chosen = -1;
        for (int man = 5; man >= 0; man--) {
            if (countedOf(plan, man).isEmpty()) continue;
            if (chosen < 0 || counted(plan, man, true).size() >= counted(plan, chosen, true).size()) chosen = man;
        }
        if (chosen < 0 || countedOf(plan, chosen).size() > 9) return NO;
        return odds(countedOf(plan, chosen), hit(plan), k, 99, part);
    }

    private int nears(List<Integer> tries, int place) {
        return tries.stream().mapToInt(i -> Math.abs((place < 0 ? now.tries.get(i).said : place) - now.tries.get(i).pipe)).sum();
    }

    int fixed(int plan, int man) {
        if (!isPlan(plan) || !within(man, 0, 5)) return -1;
        List<Integer> his = countedOf(plan, man);
        if (his.isEmpty()) return -5;
        int chosen = now.places - 1;
        for (int place = chosen; place >= 0; place--) if (nears(his, place) <= nears(his, chosen)) chosen = place;
        return chosen;
    }

    int beats(int plan) {
        if (!isPlan(plan)) return -1;
        int men = 0;
        for (int man = 0; man < 6; man++) {
            List<Integer> his = countedOf(plan, man);
            if (!his.isEmpty() && nears(his, -1) < nears(his, now.places / 2)) men += 1 << man;
        }
        return men;
    }

    int otherwise(int plan) {
        if (!isPlan(plan)) return -1;
        List<Integer> all = countedOf(plan, -1);
        if (all.isEmpty()) return -5;
        int chosen = 0;
        long most = -1;
        for (int place = now.places - 1; place >= 0; place--) {
            int said = place;
            long hits = all.stream().filter(i -> Math.abs(said - now.tries.get(i).pipe) <= hit(plan)).count();
            if (hits >= most) {
                most = hits;
                chosen = place;
            }
        }
        return chosen;
    }

    int afterwards(int plan, int man) {
        if (!isPlan(plan) || !within(man, 0, 5)) return -1;
        List<Integer> his = countedOf(plan, man);
        if (his.isEmpty() || his.size() > 9) return -5;
        int chosen = 9;
        for (int h = 9; h >= 0; h--) if (as(his, h).compareTo(as(his, chosen)) <= 0) chosen = h;
        return chosen;
    }

    private BigInteger as(List<Integer> his, int hit) {
        int k = (int) his.stream().filter(i -> now.tries.get(i).near() <= hit).count();
        return ways(chances(his, hit), now.places, k, 99);
    }

    // ---- laws

    private int lawful(int law, int i) {
        for (String clause : now.laws.get(law).split(";")) {
            String[] words = clause.split(" ");
            if (words[0].equals("near") || !holds(words[2], i)) continue;
            int n = Integer.parseInt(words[1]), pipe = now.tries.get(i).pipe;
            int place = words[0].equals("at") ? n : words[0].equals("by") ? pipe + n : pipe - n;
            return place < 0 ? 0 : place >= now.places ? now.places - 1 : place;
        }
        return -5;
    }

    private boolean has(int law, int i) {
        int place = lawful(law, i);
        return place == -5 || Math.abs(place - now.tries.get(i).said) <= last(now.laws.get(law), "near ", 0);
    }

    int says(int law, int tryout) {
        return isLaw(law) && isTry(tryout) ? lawful(law, tryout) : -1;
    }

    int cannot(int law) {
        if (!isLaw(law)) return -1;
        for (int i = 0; i < now.tries.size(); i++) if (!has(law, i)) return i;
        return -5;
    }

    int fits(int law, int tries) {
        if (!isLaw(law)) return -1;
        if (!isSet(tries)) return -2;
        return (int) set(tries).stream().filter(i -> has(law, i)).count();
    }

    int let(int tries) {
        if (!isSet(tries)) return -2;
        int laws = 0;
        for (int law = 0; law < now.laws.size(); law++) if (fits(law, tries) == Integer.bitCount(tries)) laws += 1 << law;
        return laws;
    }

    // ---- plans that are fair, excuses, fields, rods

    int fair(int hit, int place, int f, int a, int b) {
        if (!within(place, 0, now.places - 1)) return -1;
        if (!within(hit, 0, 99) || !within(f, 0, 100) || !within(a, 0, 100) || !within(b, 0, 100)) return -2;
        for (int t = 1; t < 7; t++) {
            for (int k = 0; k <= t; k++) {
                boolean feels = atMost(ways(java.util.Collections.nCopies(t, f), 100, 0, k - 1), BigInteger.valueOf(100).pow(t), a);
                boolean not = atMost(ways(java.util.Collections.nCopies(t, chanceOf(place, hit)), now.places, k, 99), allWays(t), b);
                if (feels && not) return 10 * t + k;
            }
        }
        return -5;
    }

    private static boolean atMost(BigInteger above, BigInteger below, int percent) {
        return above.multiply(BigInteger.valueOf(100)).compareTo(below.multiply(BigInteger.valueOf(percent))) <= 0;
    }

    int excuses(int plan, int man, int what, int share) {
        if (!isPlan(plan) || !within(man, 0, 5) || !within(what, 0, 2)) return -1;
        if (!within(share, 0, 100)) return -2;
        List<Integer> hits = counted(plan, man, true);
        if (what == 0) return hits.size();
        if (what == 1) return (int) hits.stream().filter(i -> now.tries.get(i).excused != 2).count();
        int misses = countedOf(plan, man).size() - hits.size();
        int least = -5;
        for (int outHits = 0; outHits <= hits.size(); outHits++) {
            for (int outMisses = 0; outMisses <= misses; outMisses++) {
                int in = hits.size() + misses - outHits - outMisses;
                boolean enough = in >= 1 && (hits.size() - outHits) * 100 >= share * in;
                if (enough && (least < 0 || outHits + outMisses < least)) least = outHits + outMisses;
            }
        }
        return least;
    }

    long field(int c, int n, int part) {
        if (!within(c, 0, 1000) || !within(n, 0, 5)) return NO;
        return part(BigInteger.valueOf(c).pow(n), BigInteger.valueOf(1000).pow(n), part);
    }

    int holes(int c, int q) {
        if (!within(c, 0, 1000) || !within(q, 1, 99)) return -2;
        for (int n = 0; n < 6; n++) {
            if (BigInteger.valueOf(c).pow(n).multiply(BigInteger.valueOf(q)).compareTo(BigInteger.valueOf(1000).pow(n)) <= 0) return n;
        }
        return -5;
    }

    int rod(int grip, int lean, int hold) {
        if (!within(grip, 0, 9) || !within(lean, -99, 99) || !within(hold, 0, 999)) return -2;
        if (lean > hold) return 0;
        if (grip == 0) return -5;
        int tilt = (hold - lean) / grip + 1;
        return tilt > 99 ? -5 : tilt;
    }

    int papers(int a, int b, int what) {
        if (!isPlan(a) || !isPlan(b) || !within(what, 0, 2)) return -1;
        if (what == 2) return passes(a) ^ passes(b);
        int bits = 0;
        for (int i = 0; i < now.tries.size(); i++) {
            boolean one = counted(a, i), other = counted(b, i);
            int near = now.tries.get(i).near();
            boolean differ = what == 0 ? one != other : one && other && near <= hit(a) != near <= hit(b);
            if (differ) bits |= 1 << i;
        }
        return bits;
    }

    // ---- acts, the image

    int act(int tryout, int act, int x) {
        ran.clear();
        if (!isTry(tryout) || !within(act, 0, 2)) return 0;
        return run(tryout, now.tries.get(tryout).kind, act, x);
    }

    /** Runs the first body of the act from a kind upwards. */
    private int run(int i, int from, int act, int x) {
        int kind = from;
        while (!"TRY0 TRY1 TRY2 FIELD0 BARN1 SEEN2 MIDDLE2 BOXED0 WARM1".contains(NAMES[kind] + act)) kind = ABOVE[kind];
        int own = now.tries.get(i).kind, s = now.tries.get(i).said, above = ABOVE[kind];
        ran.add(10 * kind + (kind == 0 ? 1 + act : 1));
        switch (10 * kind + (kind == 0 ? 1 + act : 1)) {
            case 1: return x + i;
            case 2: return run(i, own, 0, x) - s;
            case 3: return run(i, own, 1, x) * 2;
            case 11: return run(i, above, 0, x * 3);
            case 21: return -run(i, above, 1, x);
            case 31: return run(i, above, 2, x) ^ 7;
            case 41: return run(i, above, 2, x - 1) + run(i, own, 0, 2);
            case 51: return run(i, above, 0, x) ^ i;
            default: return run(i, above, 1, x) + s;
        }
    }

    int trace(int i) {
        return within(i, 0, Math.min(20, ran.size()) - 1) ? ran.get(i) : -1;
    }

    int as(int tryout, int k) {
        if (!isTry(tryout) || !within(k, 0, 6)) return -1;
        Attempt t = now.tries.get(tryout);
        for (int kind = t.kind; kind >= 0; kind = ABOVE[kind]) if (kind == k) return t.near();
        return -6;
    }

    int image() {
        taken = copy(now);
        return now.tries.size();
    }

    int undo() {
        if (taken == null) return -3;
        now = copy(taken);
        return now.tries.size();
    }

    int count(int what) {
        if (!within(what, 0, 5)) return -1;
        return new int[] {now.places, now.tries.size(), now.plans.size(), now.laws.size(), now.tape.length(), ran.size()}[what];
    }
}
