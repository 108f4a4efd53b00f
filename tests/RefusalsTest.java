import java.util.ArrayList;
import java.util.Arrays;
import java.util.List;

/**
 * Paragraph 5: every call with every number just and far out of what is told, alone and together with others, on
 * objects that are empty, half full and full: the first refusal told is answered, and nothing is changed by it.
 */
public final class RefusalsTest {
    private static final int NONE = -1, BAD = -2, STATE = -3, FULL = -4;
    private static final int MIN = Integer.MIN_VALUE, MAX = Integer.MAX_VALUE;
    private static final long NO = Long.MIN_VALUE;
    /** An object is used for 512 calls at most: so many of them may be refused ones beside its making and the probe. */
    private static final int MOST_CALLS = 100;
    private static final Check check = new Check();

    private interface Call {
        long on(RodDips x, int[] a);
    }

    /** What a number is refused with, the first and the last that are allowed, and some that are not. */
    private record Arg(long refusal, int[] allowed, int[] refused) { }

    /** A call with its numbers, what it is refused with by the state alone (0: not), and whether it only asks. */
    private record Row(String name, boolean asks, long byState, Call call, Arg... args) { }

    private record Made(Probe.Recipe recipe, int tries, int plans, int laws, int places) { }

    public static void main(String[] args) {
        for (Probe.Recipe recipe : Probe.Recipe.values()) {
            Made made = new Made(recipe, Probe.tries(recipe), Probe.plans(recipe), Probe.laws(recipe), Probe.places(recipe));
            recipeIsAsTold(made);
            for (Row row : rows(made)) play(made, row);
            noAct(made);
            feedTooLong(made);
        }
        emptyImage();
        check.end();
    }

    // ---- the rows

    private static Arg range(long refusal, int from, int to) {
        int[] out = {from - 1, to + 1, MIN, MAX, from - 2, to + 2};
        // Where there is none such at all, every number is refused.
        if (to < from) return new Arg(refusal, new int[0], new int[] {0, -1, 1, MIN, MAX});
        return new Arg(refusal, from == to ? new int[] {from} : new int[] {from, to}, out);
    }

    private static Arg set(long refusal, int tries) {
        int all = (1 << tries) - 1;
        // Nine at most, so that odds has them all.
        int most = tries > 9 ? 511 << tries - 9 : all;
        return new Arg(refusal, new int[] {0, most}, new int[] {1 << tries, -1, MIN, all | 1 << 31, all | 1 << 30, MAX, ~all});
    }

    private static Row row(String name, boolean asks, long byState, Call call, Arg... args) {
        return new Row(name, asks, byState, call, args);
    }

    private static List<Row> rows(Made made) {
        List<Row> rows = new ArrayList<>();
        changes(made, rows);
        plans(made, rows);
        odds(made, rows);
        others(made, rows);
        return rows;
    }

    private static void changes(Made made, List<Row> rows) {
        Arg man = range(NONE, 0, 5), kind = range(NONE, 0, 6), place = range(NONE, 0, made.places - 1);
        Arg tryout = range(NONE, 0, made.tries - 1);
        int bytes = Probe.bytes(made.recipe);
        rows.add(row("barn", false, made.tries > 0 ? STATE : 0, (x, a) -> x.barn(a[0]), range(BAD, 2, 100)));
        rows.add(row("tryout", false, made.tries == 30 ? FULL : 0, (x, a) -> x.tryout(a[0], a[1], a[2], a[3], a[4]),
            man, range(BAD, 0, 99), kind, place, place));
        rows.add(row("excuse", false, 0, (x, a) -> x.excuse(a[0], a[1]), tryout, range(BAD, 0, 2)));
        rows.add(row("feed", false, bytes == 120 ? FULL : 0, (x, a) -> x.feed(0x6869742031L, a[0]), range(BAD, 1, 8)));
        rows.add(row("plan", false, made.plans == 5 ? FULL : 0, (x, a) -> x.plan()));
        rows.add(row("law", false, made.laws == 5 ? FULL : 0, (x, a) -> x.law()));
        rows.add(row("undo", false, made.recipe == Probe.Recipe.EMPTY ? STATE : 0, (x, a) -> x.undo()));
    }

    private static void plans(Made made, List<Row> rows) {
        Arg man = range(NONE, 0, 5), plan = range(NONE, 0, made.plans - 1);
        rows.add(row("of", true, 0, (x, a) -> x.of(a[0], a[1]), range(NONE, 0, made.tries - 1), range(NONE, 0, 6)));
        rows.add(row("told", true, 0, (x, a) -> x.told(a[0], a[1]), plan, range(NONE, 0, 3)));
        rows.add(row("passes", true, 0, (x, a) -> x.passes(a[0]), plan));
        rows.add(row("fixed", true, 0, (x, a) -> x.fixed(a[0], a[1]), plan, man));
        rows.add(row("beats", true, 0, (x, a) -> x.beats(a[0]), plan));
        rows.add(row("otherwise", true, 0, (x, a) -> x.otherwise(a[0]), plan));
        rows.add(row("afterwards", true, 0, (x, a) -> x.afterwards(a[0], a[1]), plan, man));
        rows.add(row("excuses", true, 0, (x, a) -> x.excuses(a[0], a[1], a[2], a[3]), plan, man, range(NONE, 0, 2), range(BAD, 0, 100)));
        rows.add(row("papers", true, 0, (x, a) -> x.papers(a[0], a[1], a[2]), plan, plan, range(NONE, 0, 2)));
    }

    private static void odds(Made made, List<Row> rows) {
        Arg plan = range(NO, 0, made.plans - 1), two = range(NO, 0, 1), k = range(NO, 0, 9);
        rows.add(row("chance", true, 0, (x, a) -> x.chance(a[0], a[1], a[2]), plan, range(NO, 0, made.tries - 1), two));
        rows.add(row("odds", true, 0, (x, a) -> x.odds(a[0], a[1], a[2], a[3], a[4]), plan, set(NO, made.tries), k, two, two));
        // The last plan of the full one counts all tries, which are too many.
        Arg few = made.plans == 5 ? range(NO, 0, 3) : plan;
        Arg some = new Arg(NO, few.allowed, plan.refused);
        rows.add(row("best", true, 0, (x, a) -> x.best(a[0], a[1], a[2], a[3]), some, k, two, two));
        rows.add(row("field", true, 0, (x, a) -> x.field(a[0], a[1], a[2]), range(NO, 0, 1000), range(NO, 0, 5), two));
    }

    private static void others(Made made, List<Row> rows) {
        Arg law = range(NONE, 0, made.laws - 1), tryout = range(NONE, 0, made.tries - 1);
        Arg set = set(BAD, made.tries), percent = range(BAD, 0, 100), place = range(NONE, 0, made.places - 1);
        rows.add(row("says", true, 0, (x, a) -> x.says(a[0], a[1]), law, tryout));
        rows.add(row("cannot", true, 0, (x, a) -> x.cannot(a[0]), law));
        rows.add(row("fits", true, 0, (x, a) -> x.fits(a[0], a[1]), law, set));
        rows.add(row("let", true, 0, (x, a) -> x.let(a[0]), set));
        rows.add(row("fair", true, 0, (x, a) -> x.fair(a[0], a[1], a[2], a[3], a[4]), range(BAD, 0, 99), place, percent, percent, percent));
        rows.add(row("holes", true, 0, (x, a) -> x.holes(a[0], a[1]), range(BAD, 0, 1000), range(BAD, 1, 99)));
        rows.add(row("rod", true, 0, (x, a) -> x.rod(a[0], a[1], a[2]), range(BAD, 0, 9), range(BAD, -99, 99), range(BAD, 0, 999)));
        rows.add(row("trace", true, 0, (x, a) -> x.trace(a[0]), range(NONE, 0, Probe.ran(made.recipe) - 1)));
        rows.add(row("as", true, 0, (x, a) -> x.as(a[0], a[1]), tryout, range(NONE, 0, 6)));
        rows.add(row("count", true, 0, (x, a) -> x.count(a[0]), range(NONE, 0, 5)));
    }

    // ---- how a row is played

    /** Every choice of numbers that are out, with every number that is out in its turn. */
    private static void play(Made made, Row row) {
        List<int[]> unchanging = new ArrayList<>();
        for (int out = 0; out < 1 << row.args.length; out++) {
            for (int turn = 0; turn < 7; turn++) {
                int[] numbers = numbers(row, out, turn);
                if (numbers == null || out == 0 && turn > 3) continue;
                long refusal = refusal(row, out);
                if (refusal == 0) allowed(made, row, numbers);
                if (refusal != 0 || row.asks) unchanging.add(numbers);
                if (refusal != 0) refused(made, row, numbers, refusal);
            }
        }
        changesNothing(made, row, unchanging);
    }

    private static int[] numbers(Row row, int out, int turn) {
        int[] numbers = new int[row.args.length];
        for (int i = 0; i < numbers.length; i++) {
            Arg arg = row.args[i];
            int[] from = (out >> i & 1) == 1 ? arg.refused : arg.allowed;
            if (from.length == 0) return null;
            // The numbers that are out differ, so that not just the like ones stand together.
            numbers[i] = from[(turn + i) % from.length];
        }
        return numbers;
    }

    private static long refusal(Row row, int out) {
        long[] order = {NO, NONE, BAD};
        for (long refusal : order) {
            for (int i = 0; i < row.args.length; i++) {
                if ((out >> i & 1) == 1 && row.args[i].refusal == refusal) return refusal;
            }
        }
        return row.byState;
    }

    private static void refused(Made made, Row row, int[] numbers, long refusal) {
        check.promise("a refusal of " + made.recipe);
        check.due(row.name + Arrays.toString(numbers), row.call.on(Probe.made(made.recipe), numbers), refusal);
    }

    private static void allowed(Made made, Row row, int[] numbers) {
        check.promise("allowed for " + made.recipe);
        check.dueNot(row.name + Arrays.toString(numbers), row.call.on(Probe.made(made.recipe), numbers), NONE, BAD, STATE, FULL, NO);
    }

    private static void changesNothing(Made made, Row row, List<int[]> calls) {
        check.promise("nothing is changed of " + made.recipe);
        for (int from = 0; from < calls.size(); from += MOST_CALLS) {
            List<int[]> some = calls.subList(from, Math.min(calls.size(), from + MOST_CALLS));
            for (int part = 0; part < Probe.PARTS; part++) {
                RodDips x = Probe.made(made.recipe);
                for (int[] numbers : some) row.call.on(x, numbers);
                check.dueText("part " + part + " behind " + row.name, Probe.seen(x, part), Probe.seen(Probe.made(made.recipe), part));
            }
        }
    }

    // ---- what the rows don't hold

    private static void recipeIsAsTold(Made made) {
        check.promise("the recipe of " + made.recipe);
        int[] counts = {made.places, made.tries, made.plans, made.laws, Probe.bytes(made.recipe), Probe.ran(made.recipe)};
        RodDips x = Probe.made(made.recipe);
        for (int what = 0; what < 6; what++) check.due("count(" + what + ")", x.count(what), counts[what]);
    }

    /** Of an act that there is not THE TRACE alone is changed: it is empty. */
    private static void noAct(Made made) {
        check.promise("no act of " + made.recipe);
        int[][] calls = {{-1, 0}, {made.tries, 0}, {MIN, 1}, {MAX, 2}, {0, -1}, {0, 3}, {0, MIN}, {0, MAX}, {made.tries, 3}};
        for (int[] call : calls) {
            for (int part = 0; part < Probe.PARTS; part++) {
                RodDips x = Probe.made(made.recipe);
                check.due("act" + Arrays.toString(call), x.act(call[0], call[1], 7), 0);
                check.due("count(5) behind act" + Arrays.toString(call), x.count(5), 0);
                for (int i = 0; i < 6; i++) check.due("trace(" + i + ") behind act" + Arrays.toString(call), x.trace(i), NONE);
                x.act(made.tries == 30 ? 4 : made.tries - 1, 2, 9);
                check.dueText("part " + part + " behind act" + Arrays.toString(call), Probe.seen(x, part), Probe.seen(Probe.made(made.recipe), part));
            }
        }
    }

    /** FULL of feed hangs on how many come and how many there are: none of them comes then. */
    private static void feedTooLong(Made made) {
        check.promise("feed of " + made.recipe);
        for (int there = Probe.bytes(made.recipe); there <= 120; there++) {
            for (int n = 1; n <= 8; n++) {
                RodDips x = Probe.made(made.recipe);
                Check.feedWide(x, Check.repeated("h", there - Probe.bytes(made.recipe)));
                check.due("feed of " + n + " behind " + there, x.feed(7, n), there + n > 120 ? FULL : there + n);
                check.due("count(4) of " + n + " behind " + there, x.count(4), there + n > 120 ? there : there + n);
            }
        }
    }

    /** An image of an object without anything is one, too. */
    private static void emptyImage() {
        check.promise("undo");
        RodDips x = new RodDips();
        check.due("undo() without", x.undo(), STATE);
        check.due("image()", x.image(), 0);
        check.due("undo()", x.undo(), 0);
        check.due("undo() once more", x.undo(), 0);
    }
}
