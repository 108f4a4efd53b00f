import java.util.ArrayList;
import java.util.HashSet;
import java.util.List;
import java.util.Random;
import java.util.Set;

/** FAULTS by the grammar as the document puts it down: what may still come is a set of texts of its parts, each tried. */
public final class GrammarTest {
    /** Parts that aren't bytes: a TEXT of so many CLAUSES at most, and E, T, F with so many of ! and ( open. */
    private static final char TEXT = 0x100, CLAUSE = 0x200, NUMBER = 0x300, E = 0x400, T = 0x500, F = 0x600, TEST = 0x700;
    private static final char LETTER = 0x800, SIGN = 0x801, DIGIT = 0x802, FIRST_OF_TWO = 0x803;
    private static final int OPEN = 5, CLAUSES = 8, BYTES = 120;
    private static final Check check = new Check();

    private final boolean law;

    private GrammarTest(boolean law) {
        this.law = law;
    }

    public static void main(String[] args) {
        check.promise("7, FAULT");
        GrammarTest plans = new GrammarTest(false);
        plans.every("take ", "m=1!()&|;", 6);
        plans.every("", "drop hit4;", 8);
        plans.every("need 1;drop !(!(", "t>90!()|", 6);
        plans.every(Check.repeated("hit 1;", 7), "need 20;", 8);
        plans.many();
        check.promise("17, FAULT");
        GrammarTest laws = new GrammarTest(true);
        laws.every("at 7 ", "l<2!()&|;", 6);
        laws.every("", "atbyoffner 10;", 7);
        laws.every("near 9;off 0 ((((", "p=05!(&)", 6);
        laws.every(Check.repeated("near 0;", 7), "by 1m>|;", 9);
        laws.many();
        check.end();
    }

    private List<String> ways(char part) {
        int held = part & 255;
        switch (part & 0xff00) {
            case TEXT: return held < 2 ? List.of(text(CLAUSE)) : List.of(text(CLAUSE), text(CLAUSE, ';', TEXT + held - 1));
            case CLAUSE: return law ? List.of("at " + text(NUMBER, ' ', E), "by " + text(NUMBER, ' ', E), "off " + text(NUMBER, ' ', E), "near " + NUMBER)
                : List.of("hit " + NUMBER, "need " + NUMBER, "take " + E, "drop " + E);
            case NUMBER: return List.of(text(DIGIT), text(FIRST_OF_TWO, DIGIT));
            case E: return List.of(text(T + held), text(T + held, '|', E + held));
            case T: return List.of(text(F + held), text(F + held, '&', T + held));
            case F: return held == OPEN ? List.of(text(TEST)) : List.of(text(TEST), text('!', F + held + 1), text('(', E + held + 1, ')'));
            case TEST: return List.of(text(LETTER, SIGN, NUMBER));
            default: return List.of();
        }
    }

    private static String text(int... parts) {
        StringBuilder all = new StringBuilder();
        for (int part : parts) all.append((char) part);
        return all.toString();
    }

    private String bytesOf(char part) {
        switch (part) {
            case LETTER: return law ? "pdkml" : "mdkxtsn";
            case SIGN: return "<=>";
            case DIGIT: return "0123456789";
            case FIRST_OF_TWO: return "123456789";
            default: return text(part);
        }
    }

    /** The same with a byte, or none, ahead in each. */
    private Set<String> openedUp(Set<String> all) {
        Set<String> seen = new HashSet<>(all), ready = new HashSet<>();
        List<String> todo = new ArrayList<>(all);
        while (!todo.isEmpty()) {
            String one = todo.remove(todo.size() - 1);
            List<String> ways = one.isEmpty() ? List.of() : ways(one.charAt(0));
            if (ways.isEmpty()) ready.add(one);
            for (String way : ways) {
                String next = way + one.substring(1);
                if (seen.add(next)) todo.add(next);
            }
        }
        return ready;
    }

    private Set<String> behind(Set<String> ready, char sign) {
        Set<String> rest = new HashSet<>();
        for (String one : ready) {
            if (!one.isEmpty() && bytesOf(one.charAt(0)).indexOf(sign) >= 0) rest.add(one.substring(1));
        }
        return openedUp(rest);
    }

    private Set<String> start() {
        return openedUp(Set.of(text(TEXT + CLAUSES)));
    }

    private int fault(String text) {
        Set<String> ready = start();
        for (int i = 0; i < text.length(); i++) {
            ready = behind(ready, text.charAt(i));
            if (ready.isEmpty()) return i;
        }
        return ready.contains("") ? -1 : text.length();
    }

    private void due(String text, int fault) {
        RodDips x = new RodDips();
        int got = law ? Check.lawWide(x, text) : Check.planWide(x, text);
        check.due((law ? "law() of '" : "plan() of '") + text + "'", got, fault < 0 ? 0 : -10 - fault);
    }

    /** Each text that goes on from a beginning by so many of the signs, till none can go on from it. */
    private void every(String beginning, String signs, int more) {
        Set<String> ready = start();
        for (int i = 0; i < beginning.length(); i++) ready = behind(ready, beginning.charAt(i));
        every(ready, beginning, signs, more);
    }

    private void every(Set<String> ready, String text, String signs, int more) {
        due(text, ready.contains("") ? -1 : text.length());
        for (int i = 0; i < signs.length(); i++) {
            Set<String> next = behind(ready, signs.charAt(i));
            String longer = text + signs.charAt(i);
            if (next.isEmpty()) due(longer, text.length());
            else if (more > 1) every(next, longer, signs, more - 1);
            else due(longer, next.contains("") ? -1 : longer.length());
        }
    }

    /** Long texts that the grammar makes, and each with one byte put in, left out, changed, or cut short. */
    private void many() {
        Random random = new Random(law ? 17 : 7);
        for (int i = 0; i < 1500; i++) {
            String made = made(random);
            due(made, -1);
            StringBuilder spoilt = new StringBuilder(made);
            int at = random.nextInt(made.length()), how = random.nextInt(4);
            char sign = "!()&|;<=> 019mdkxtsnpl\u0000\u00ff".charAt(random.nextInt(24));
            if (how == 0 && made.length() < BYTES) spoilt.insert(at, sign);
            else if (how == 1) spoilt.deleteCharAt(at);
            else if (how == 2) spoilt.setLength(at);
            else spoilt.setCharAt(at, sign);
            due(spoilt.toString(), fault(spoilt.toString()));
        }
    }

    private String made(Random random) {
        while (true) {
            StringBuilder bytes = new StringBuilder(), rest = new StringBuilder(text(TEXT + CLAUSES));
            while (rest.length() > 0 && bytes.length() <= BYTES) {
                char part = rest.charAt(0);
                List<String> ways = ways(part);
                rest.deleteCharAt(0);
                if (ways.isEmpty()) bytes.append(bytesOf(part).charAt(random.nextInt(bytesOf(part).length())));
                else rest.insert(0, ways.get(random.nextInt(ways.size())));
            }
            if (bytes.length() <= BYTES) return bytes.toString();
        }
    }
}
