/** Each sentence about THE TAPE, CLAUSES, PLANS, COUNTED ones and HITS that names a boundary: both of its sides. */
public final class EdgesOfTextsTest {
    private static final int NONE = -1, FULL = -4, SOUND = -1;
    private static final int MIN = Integer.MIN_VALUE, MAX = Integer.MAX_VALUE;
    private static final String PLAN_LETTERS = "mdkxtsn", LAW_LETTERS = "pdkml", DIGITS = "0123456789";
    private static final Check check = new Check();

    public static void main(String[] args) {
        nextBytesOfPlans();
        nextBytesOfLaws();
        words();
        semicolons();
        blanks();
        digits();
        eightClauses();
        fiveOpen();
        closedOnesAreNotOpen();
        endsTooEarly();
        faultsAtTheEndOfTheTape();
        emptyByAFault();
        emptyTape();
        fivePlans();
        fiveLaws();
        bothAreNumberedAlone();
        lastHolds();
        counted();
        countedOfMost();
        signs();
        joins();
        hits();
        passes();
        told();
        check.end();
    }

    private static int read(RodDips x, boolean law) {
        return law ? x.law() : x.plan();
    }

    /** The FAULT of a text, or SOUND. */
    private static void fault(boolean law, String text, int place) {
        RodDips x = new RodDips();
        Check.feedWide(x, text);
        String call = (law ? "law()" : "plan()") + " of '" + text + "'";
        check.due(call, read(x, law), place == SOUND ? 0 : -10 - place);
        check.due("the tape behind " + call, x.count(4), 0);
        check.due("plans behind " + call, x.count(2), place == SOUND && !law ? 1 : 0);
        check.due("laws behind " + call, x.count(3), place == SOUND && law ? 1 : 0);
    }

    private static void plan(String text, int place) {
        fault(false, text, place);
    }

    private static void law(String text, int place) {
        fault(true, text, place);
    }

    // ---- FAULT: the place of the first byte with which no PLAN can go on

    /** Of all 256 bytes just these can come behind the text; which of them end it soundly is told, too. */
    private static void next(boolean law, String text, String bytes, String sound) {
        for (int value = 0; value < 256; value++) {
            RodDips x = new RodDips();
            Check.feedWide(x, text);
            x.feed(value, 1);
            int size = text.length();
            boolean goesOn = bytes.indexOf((char) value) >= 0;
            long want = !goesOn ? -10 - size : sound.indexOf((char) value) >= 0 ? 0 : -10 - size - 1;
            check.due("'" + text + "' and the byte " + value, read(x, law), want);
        }
    }

    private static void nextBytesOfPlans() {
        check.promise("FAULT of a PLAN, byte by byte");
        next(false, "", "hntd", "");
        next(false, "hit", " ", "");
        next(false, "hit ", DIGITS, DIGITS);
        next(false, "hit 0", ";", "");
        next(false, "hit 1", DIGITS + ";", DIGITS);
        next(false, "hit 9", DIGITS + ";", DIGITS);
        next(false, "hit 10", ";", "");
        next(false, "need 0", ";", "");
        next(false, "need 12", ";", "");
        next(false, "need 1;", "hntd", "");
        next(false, "take ", PLAN_LETTERS + "!(", "");
        next(false, "drop ", PLAN_LETTERS + "!(", "");
        next(false, "take !", PLAN_LETTERS + "!(", "");
        next(false, "take (", PLAN_LETTERS + "!(", "");
        next(false, "take m", "<=>", "");
        next(false, "take n", "<=>", "");
        next(false, "take m<", DIGITS, DIGITS);
        next(false, "take m=", DIGITS, DIGITS);
        next(false, "take m>", DIGITS, DIGITS);
        next(false, "take m=0", "&|;", "");
        next(false, "take m=5", DIGITS + "&|;", DIGITS);
        next(false, "take m=50", "&|;", "");
        next(false, "take m=5&", PLAN_LETTERS + "!(", "");
        next(false, "take m=5|", PLAN_LETTERS + "!(", "");
        next(false, "take m=5;", "hntd", "");
        next(false, "take (m=0", "&|)", ")");
        next(false, "take (m=5", DIGITS + "&|)", ")");
        next(false, "take (m=5)", "&|;", "");
        next(false, "take ((m=5)", "&|)", ")");
        next(false, "take !m=50", "&|;", "");
        next(false, "take !(m=5|!d=50", "&|)", ")");
        next(false, "take !(!(!", PLAN_LETTERS, "");
        next(false, "take !!!!", PLAN_LETTERS + "!(", "");
        next(false, "take !!!!!", PLAN_LETTERS, "");
        next(false, "take (((((", PLAN_LETTERS, "");
        next(false, "take (((((m=50", "&|)", "");
        next(false, "take (((((m=50)&", PLAN_LETTERS + "!(", "");
        next(false, "take (((((m=50&", PLAN_LETTERS, "");
        next(false, "take !!!!!m=50&", PLAN_LETTERS + "!(", "");
        next(false, Check.repeated("hit 1;", 6) + "hit 1", DIGITS + ";", DIGITS);
        next(false, Check.repeated("hit 1;", 7) + "hit 1", DIGITS, DIGITS);
        next(false, Check.repeated("hit 1;", 7) + "hit 0", "", "");
        next(false, Check.repeated("hit 1;", 7) + "take m=50", "&|", "");
    }

    private static void nextBytesOfLaws() {
        check.promise("FAULT of a LAW, byte by byte");
        next(true, "", "abon", "");
        next(true, "a", "t", "");
        next(true, "at", " ", "");
        next(true, "at ", DIGITS, "");
        next(true, "at 0", " ", "");
        next(true, "at 5", DIGITS + " ", "");
        next(true, "at 50", " ", "");
        next(true, "by 7", DIGITS + " ", "");
        next(true, "off 99", " ", "");
        next(true, "at 0 ", LAW_LETTERS + "!(", "");
        next(true, "by 50 ", LAW_LETTERS + "!(", "");
        next(true, "off 5 ", LAW_LETTERS + "!(", "");
        next(true, "off 5 !!!!!", LAW_LETTERS, "");
        next(true, "off 5 l", "<=>", "");
        next(true, "off 5 l>", DIGITS, DIGITS);
        next(true, "off 5 l>9", DIGITS + "&|;", DIGITS);
        next(true, "off 5 l>0", "&|;", "");
        next(true, "off 5 l>99", "&|;", "");
        next(true, "off 5 (l>99", "&|)", ")");
        next(true, "off 5 l>99;", "abon", "");
        next(true, "near ", DIGITS, DIGITS);
        next(true, "near 0", ";", "");
        next(true, "near 3", DIGITS + ";", DIGITS);
        next(true, "near 33", ";", "");
        next(true, Check.repeated("near 1;", 7) + "near 33", "", "");
        next(true, Check.repeated("near 1;", 7) + "at 5 m=50", "&|", "");
    }

    /** A word that ends too early, or has another byte anywhere. */
    private static void words() {
        check.promise("CLAUSES: hit n; need n; take E; drop E; at n E; by n E; off n E; near n");
        String[] plans = {"hit 1", "need 1", "take m=1", "drop m=1"}, laws = {"at 1 m=1", "by 1 m=1", "off 1 m=1", "near 1"};
        for (String text : plans) {
            plan(text, SOUND);
            spoiled(false, text);
            law(text, text.startsWith("need") ? 2 : 0);
        }
        for (String text : laws) {
            law(text, SOUND);
            spoiled(true, text);
            plan(text, text.startsWith("near") ? 2 : 0);
        }
    }

    private static void spoiled(boolean law, String text) {
        for (int i = 0; i < text.length(); i++) {
            fault(law, text.substring(0, i), i);
            for (char other : new char[] {'\u0000', '~', '\u00ff', 'H'}) fault(law, text.substring(0, i) + other + text.substring(i + 1), i);
        }
    }

    private static void semicolons() {
        check.promise("CLAUSES, 8 at most, with ; between");
        for (String text : new String[] {"hit 1", "need 1", "take m=1", "drop (m=1)"}) {
            plan(text + ";", text.length() + 1);
            plan(text + ";;" + text, text.length() + 1);
            plan(";" + text, 0);
            plan(text + text, text.length());
            plan(text + ";" + text, SOUND);
        }
        plan(";", 0);
        law(";", 0);
        law("near 1;", 7);
        law("near 1;;near 1", 7);
        law("at 1 m=1;near 1;by 1 m=1", SOUND);
    }

    private static void blanks() {
        check.promise("one blank ahead of each part behind the word");
        plan("hit1", 3);
        plan("hit  1", 4);
        plan("hit\t1", 3);
        plan(" hit 1", 0);
        plan("hit 1 ", 5);
        plan("hit 1 ;hit 1", 5);
        plan("hit 1; hit 1", 6);
        plan("takem=1", 4);
        plan("take  m=1", 5);
        plan("take m =1", 6);
        plan("take m= 1", 7);
        plan("take m=1 ", 8);
        plan("take m=1 &d=1", 8);
        plan("take m=1& d=1", 9);
        plan("take ( m=1)", 6);
        plan("take (m=1 )", 9);
        plan("take ! m=1", 6);
        law("at1 m=1", 2);
        law("at  1 m=1", 3);
        law("at 1m=1", 4);
        law("at 1  m=1", 5);
        law("off 10  m=1", 7);
        law("near  1", 5);
    }

    private static void digits() {
        check.promise("n 1 or 2 digits, no 0 ahead of another");
        for (int n = 0; n < 100; n++) {
            plan("hit " + n, SOUND);
            plan("need " + n, SOUND);
            plan("take m=" + n, SOUND);
            law("near " + n, SOUND);
            law("at " + n + " l<" + n, SOUND);
        }
        for (int n = 0; n < 10; n++) {
            plan("hit 0" + n, 5);
            plan("need 0" + n, 6);
            plan("drop x<0" + n, 8);
            law("near 0" + n, 6);
            law("by 0" + n + " m=1", 4);
            law("by 1 m=0" + n, 8);
        }
        for (int n = 100; n < 1000; n += 89) {
            plan("hit " + n, 6);
            plan("need " + n, 7);
            plan("drop x<" + n, 9);
            law("near " + n, 7);
            law("off " + n + " m=1", 6);
            law("off 1 m=" + n, 10);
        }
        for (String sign : new String[] {"+", "-", "a", " ", ".", ":", "/"}) {
            plan("hit " + sign + "1", 4);
            plan("take m=" + sign + "1", 7);
            law("near " + sign + "1", 5);
        }
        plan("hit ", 4);
        plan("take m=", 7);
        plan("take m=&d=1", 7);
    }

    private static void eightClauses() {
        check.promise("CLAUSES, 8 at most");
        for (String text : new String[] {"hit 1", "need 12", "take m=1", "drop m=1"}) {
            String seven = Check.repeated(text + ";", 7);
            plan(seven + text, SOUND);
            plan(seven + text + ";", seven.length() + text.length());
            plan(seven + text + ";" + text, seven.length() + text.length());
        }
        for (String text : new String[] {"at 1 m=1", "by 1 d=1", "off 1 k=1", "near 50"}) {
            String seven = Check.repeated(text + ";", 7);
            law(seven + text, SOUND);
            law(seven + text + ";", seven.length() + text.length());
            law(seven + text + ";" + text, seven.length() + text.length());
        }
        plan("hit 1;need 1;take m=1;drop m=2;hit 2;need 2;take m=3;drop m=4", SOUND);
        plan("hit 1;need 1;take m=1;drop m=2;hit 2;need 2;take m=3;drop m=4;x", 61);
        law("at 1 m=1;by 1 m=1;off 1 m=1;near 1;at 1 m=1;by 1 m=1;off 1 m=1;near 1;", 69);
    }

    // ---- At most 5 of ! and ( are open (a ( till its ) , a ! till its F ends)

    /** A text of ! and ( by the bits, and what closes them. */
    private static String opened(int bits, int size, String inside) {
        StringBuilder text = new StringBuilder("take ");
        for (int i = 0; i < size; i++) text.append((bits >> i & 1) == 1 ? '!' : '(');
        return text.append(inside).append(Check.repeated(")", size - Integer.bitCount(bits))).toString();
    }

    private static void fiveOpen() {
        check.promise("At most 5 of ! and ( are open");
        for (int size = 0; size <= 5; size++) {
            for (int bits = 0; bits < 1 << size; bits++) plan(opened(bits, size, "m=1"), SOUND);
        }
        for (int size = 6; size <= 8; size++) {
            for (int bits = 0; bits < 1 << size; bits++) plan(opened(bits, size, "m=1"), 10);
        }
        for (int bits = 0; bits < 64; bits++) {
            law("near 1;at 1 " + opened(bits, 6, "m=1").substring(5), 17);
            if (bits < 32) law("near 1;at 1 " + opened(bits, 5, "m=1").substring(5), SOUND);
        }
        plan("take ((((((", 10);
        plan("take !!!!!!", 10);
        plan("take (((((", 10);
        plan("take !!!!!", 10);
    }

    private static void closedOnesAreNotOpen() {
        check.promise("a ( till its ) , a ! till its F ends");
        plan("take !!!!!m=1&!!!!!d=1|!!!!!k=1", SOUND);
        plan("take (((((m=1)))))&(((((d=1)))))|(((((k=1)))))", SOUND);
        plan("take ((((!m=1&!d=1|!k=1))))", SOUND);
        plan("take ((((!m=1&!!d=1))))", 15);
        plan("take ((((!m=1|(d=1)&!k=1))))", SOUND);
        plan("take ((((!m=1|(d=1&!k=1)))))", 19);
        plan("take ((((!(m=1)))))", 10);
        plan("take !(!(m=1)&!(d=1))", SOUND);
        plan("take !(!(m=1)&!(d=1)&!(!k=1))", SOUND);
        plan("take !(!(m=1)&!(d=1)&!(!!k=1))", 24);
        plan("take !(((((m=1)))))", 10);
        plan("take !((((m=1))))&(((((m=1)))))", SOUND);
        plan("take !((((m=1)|!d=1)))", SOUND);
        plan("take !((((m=1)|!!d=1)))", 16);
        plan("take !(((!m=1&!d=1)|!d=1)|(((m=1))))", SOUND);
        plan("take !(((!m=1&!d=1)|!d=1)|((((m=1)))))", 29);
        plan("take !!!!!m=1;drop !!!!!m=1;take (((((m=1)))))", SOUND);
        plan("take (((((m=1))))))", 18);
        plan("take (((((m=1))))", 17);
        plan("take m=1)", 8);
        plan("take !m=1)", 9);
        plan("take ((m=1);hit 1", 11);
        plan("take ()", 6);
        plan("take m=1(d=1)", 8);
        plan("take (m=1)(d=1)", 10);
        plan("take m=1!d=1", 8);
        plan("take !", 6);
        plan("take (", 6);
    }

    private static void endsTooEarly() {
        check.promise("FAULT: the size, if it ends too early");
        String text = "hit 10;need 2;take !(m=1|d<20)&k>3;drop x=2;need 0";
        // Where the text may end: behind a digit of a clause, unless something is open.
        int[] sound = {5, 6, 13, 30, 34, 43, 50};
        for (int size = 0; size <= text.length(); size++) {
            boolean ends = false;
            for (int one : sound) ends |= one == size;
            plan(text.substring(0, size), ends ? SOUND : size);
        }
        String other = "at 10 !(l>9|p<20)&k=3;near 12;off 5 m=0";
        int[] soundToo = {17, 21, 28, 29, 39};
        for (int size = 0; size <= other.length(); size++) {
            boolean ends = false;
            for (int one : soundToo) ends |= one == size;
            law(other.substring(0, size), ends ? SOUND : size);
        }
    }

    private static void faultsAtTheEndOfTheTape() {
        check.promise("FAULT of a tape of 120 bytes");
        String most = "take " + Check.repeated("m=1|", 28);
        check.due("its size", most.length(), 117);
        plan(most + "m=1", SOUND);
        plan(most + "m=x", 119);
        plan(most + "mm1", 118);
        plan(most + "m=&", 119);
        plan("take " + Check.repeated("m=12|", 23), 120);
        plan("take " + Check.repeated("m=12&", 22) + "d=12;", 120);
        plan("take " + Check.repeated("(m=1)&", 19) + "!", 120);
        plan(Check.repeated("take m<12;", 7) + "drop " + Check.repeated("n=12&", 9), 120);
        law("by 1 " + Check.repeated("l=12|", 23), 120);
        law("by 1 " + Check.repeated("l=12|", 22) + "l>123", 119);
    }

    private static void emptyByAFault() {
        check.promise("THE TAPE, which is empty then (by a FAULT, too)");
        for (int law = 0; law < 2; law++) {
            RodDips x = new RodDips();
            Check.feedWide(x, "hit 1;x");
            check.due("a fault", read(x, law == 1), law == 1 ? -10 : -16);
            check.due("count(4)", x.count(4), 0);
            check.due("once more", read(x, law == 1), -10);
            Check.feedWide(x, law == 1 ? "near 1" : "hit 1");
            check.due("a number that no fault took", read(x, law == 1), 0);
            check.due("count(4)", x.count(4), 0);
            check.due("once more", read(x, law == 1), -10);
            Check.feedWide(x, law == 1 ? "near 2" : "hit 2");
            check.due("the next number", read(x, law == 1), 1);
        }
    }

    private static void emptyTape() {
        check.promise("FAULT of an empty tape");
        plan("", 0);
        law("", 0);
    }

    // ---- PLANS are numbered from 0 on, 5 at most

    private static void fivePlans() {
        check.promise("PLANS are numbered from 0 on, 5 at most: FULL (THE TAPE stays)");
        RodDips x = new RodDips();
        x.tryout(0, 0, 0, 0, 9);
        for (int i = 0; i < 5; i++) {
            check.due("told(" + i + ", 0) ahead", x.told(i, 0), NONE);
            check.due("plan() of " + i, Check.plan(x, "hit " + (i + 5)), i);
            check.due("told(" + i + ", 0)", x.told(i, 0), i + 5);
            check.due("count(2)", x.count(2), i + 1);
        }
        check.due("full, of an empty tape", x.plan(), FULL);
        check.due("full, of a sound tape", Check.plan(x, "near 7"), FULL);
        check.due("count(4)", x.count(4), 6);
        check.due("full still", x.plan(), FULL);
        check.due("count(4)", x.count(4), 6);
        check.due("count(2)", x.count(2), 5);
        for (int i = 0; i < 5; i++) check.due("told(" + i + ", 0)", x.told(i, 0), i + 5);
        for (int i : new int[] {-1, 5, 6, MIN, MAX}) check.due("told(" + i + ", 0)", x.told(i, 0), NONE);
        check.due("what stayed is a law", x.law(), 0);
        check.due("full, with a fault", Check.plan(x, "hit x"), FULL);
        check.due("count(4)", x.count(4), 5);
    }

    private static void fiveLaws() {
        check.promise("LAWS: Numbered from 0 on, 5 at most: FULL (THE TAPE stays)");
        RodDips x = new RodDips();
        x.tryout(0, 0, 0, 0, 9);
        for (int i = 0; i < 5; i++) {
            check.due("says(" + i + ", 0) ahead", x.says(i, 0), NONE);
            check.due("law() of " + i, Check.law(x, "at " + (i + 5) + " m=0"), i);
            check.due("says(" + i + ", 0)", x.says(i, 0), i + 5);
            check.due("count(3)", x.count(3), i + 1);
        }
        check.due("full, of an empty tape", x.law(), FULL);
        check.due("full, of a tape", Check.law(x, "hit 7"), FULL);
        check.due("count(4)", x.count(4), 5);
        check.due("full still", x.law(), FULL);
        check.due("count(3)", x.count(3), 5);
        for (int i = 0; i < 5; i++) check.due("says(" + i + ", 0)", x.says(i, 0), i + 5);
        for (int i : new int[] {-1, 5, 6, MIN, MAX}) check.due("says(" + i + ", 0)", x.says(i, 0), NONE);
        check.due("what stayed is a plan", x.plan(), 0);
        check.due("told(0, 0)", x.told(0, 0), 7);
        check.due("full, with a fault", Check.law(x, "near x"), FULL);
        check.due("count(4)", x.count(4), 6);
        check.due("let(0)", x.let(0), 31);
    }

    private static void bothAreNumberedAlone() {
        check.promise("PLANS and LAWS are numbered alone, behind undo, too");
        RodDips x = new RodDips();
        for (int i = 0; i < 5; i++) {
            check.due("plan() " + i, Check.plan(x, "hit " + i), i);
            check.due("law() " + i, Check.law(x, "near " + i), i);
            if (i == 3) x.image();
        }
        check.due("undo()", x.undo(), 0);
        check.due("count(2)", x.count(2), 4);
        check.due("count(3)", x.count(3), 4);
        check.due("told(4, 0)", x.told(4, 0), NONE);
        check.due("cannot(4)", x.cannot(4), NONE);
        check.due("another fifth", Check.plan(x, "hit 77"), 4);
        check.due("told(4, 0)", x.told(4, 0), 77);
        check.due("told(3, 0)", x.told(3, 0), 3);
        check.due("another fifth", Check.law(x, "near 77"), 4);
        check.due("no sixth", Check.law(x, "near 77"), FULL);
    }

    private static void lastHolds() {
        check.promise("Of hit, need the last n holds (0, 1 without)");
        int[][] want = {{0, 1}, {0, 1}, {99, 1}, {0, 99}, {0, 0}, {3, 1}, {0, 5}, {12, 34}, {0, 1}};
        String[] texts = {"take m=0", "drop m=0", "hit 99", "need 99", "need 0", "hit 9;hit 99;hit 3", "need 50;take m=1;need 5",
            "hit 1;need 2;hit 11;need 0;drop m=9;hit 12;need 34", "hit 7;need 0;hit 0;need 1"};
        for (int i = 0; i < texts.length; i++) {
            RodDips x = new RodDips();
            check.due("a fault", Check.plan(x, "hit 55;need 66;take m=9;drop m<9;"), -43);
            check.due("plan() of " + texts[i], Check.plan(x, texts[i]), 0);
            check.due("hit of " + texts[i], x.told(0, 0), want[i][0]);
            check.due("need of " + texts[i], x.told(0, 1), want[i][1]);
        }
    }

    // ---- COUNTED, HITS, PASSES

    /** Seven tries; of try i man, day and kind i. */
    private static RodDips seven() {
        RodDips x = new RodDips();
        for (int i = 0; i < 7; i++) x.tryout(Math.min(i, 5), i, i, i, 2 * i > 9 ? 9 : 2 * i);
        return x;
    }

    private static void countedBy(String text, int bits) {
        RodDips x = seven();
        // What a fault or another plan left is not to be seen by the next one.
        Check.plan(x, "take t=6;drop t<6;take t=0;hit 9;x");
        check.due("plan() of " + text, Check.plan(x, text), 0);
        check.due("counted by " + text, x.told(0, 2), bits);
    }

    private static void counted() {
        check.promise("COUNTED: TRIES for which E of some take holds (all, without any), and of no drop");
        countedBy("hit 0", 127);
        countedBy("need 5", 127);
        countedBy("take t=3", 0b0001000);
        countedBy("take t>6", 0);
        countedBy("take t=3;take t=5", 0b0101000);
        countedBy("take t=3;take t>6", 0b0001000);
        countedBy("take t>6;take t=3", 0b0001000);
        countedBy("drop t=3", 0b1110111);
        countedBy("drop t<9", 0);
        countedBy("drop t>6", 127);
        countedBy("take t=3;drop t=3", 0);
        countedBy("drop t=3;take t=3", 0);
        countedBy("drop t=3;take t<5;drop t=0;take t=6", 0b1010110);
        countedBy("take t=0;take t=1;take t=2;take t=3;take t=4;take t=5;take t=6;take t=7", 127);
        countedBy("drop t=0;drop t=1;drop t=2;drop t=3;drop t=4;drop t=5;drop t=7;drop t=7", 0b1000000);
        countedBy("drop t=0;drop t=1;drop t=2;drop t=3;drop t=4;drop t=5;drop t=7;drop t=6", 0);
        countedBy("take t=0;take t=0;take t=0;take t=0;take t=0;take t=0;take t=0;take t=6", 0b1000001);
        RodDips x = new RodDips();
        Check.plan(x, "need 0");
        check.due("counted of no tries", x.told(0, 2), 0);
        check.due("hits of no tries", x.told(0, 3), 0);
        x.tryout(0, 0, 0, 0, 0);
        check.due("counted of a try that came later", x.told(0, 2), 1);
    }

    private static void countedOfMost() {
        check.promise("COUNTED TRIES (bits) of thirty");
        RodDips x = new RodDips();
        for (int i = 0; i < 30; i++) x.tryout(0, i, 0, 0, i % 2);
        Check.plan(x, "hit 0");
        Check.plan(x, "take t=29");
        Check.plan(x, "drop t<29;hit 1");
        check.due("all", x.told(0, 2), (1 << 30) - 1);
        check.due("every other", x.told(0, 3), 0x15555555);
        check.due("the last", x.told(1, 2), 1 << 29);
        check.due("no hit", x.told(1, 3), 0);
        check.due("the last is a hit", x.told(2, 3), 1 << 29);
    }

    private static void signs() {
        check.promise("one of < = >, of a TRY m d k x t s n");
        RodDips x = new RodDips();
        x.barn(100);
        for (int i = 0; i < 29; i++) x.tryout(0, 0, 0, 0, 0);
        x.tryout(5, 98, 6, 0, 97);
        x.excuse(29, 2);
        int[] values = {5, 98, 6, 2, 29, 97, 97};
        for (int i = 0; i < 7; i++) {
            for (int n = values[i] - 1; n <= values[i] + 1; n++) {
                for (int sign = -1; sign <= 1; sign++) {
                    x.image();
                    String e = "" + PLAN_LETTERS.charAt(i) + "<=>".charAt(sign + 1) + n;
                    Check.planWide(x, "take t=29&" + e);
                    check.due("counted by " + e, x.told(0, 2), Integer.compare(values[i], n) == sign ? 1 << 29 : 0);
                    x.undo();
                }
            }
        }
        RodDips y = new RodDips();
        y.tryout(0, 0, 0, 0, 0);
        for (char letter : PLAN_LETTERS.toCharArray()) {
            y.image();
            Check.planWide(y, "take " + letter + "<0");
            Check.planWide(y, "take " + letter + "=0");
            Check.planWide(y, "take " + letter + ">0");
            check.due("nothing is less than 0: " + letter, y.told(0, 2), 0);
            check.due("0 is 0: " + letter, y.told(1, 2), 1);
            check.due("0 is no more than 0: " + letter, y.told(2, 2), 0);
            y.undo();
        }
    }

    private static void joins() {
        check.promise("E: T, or T|E. T: F, or F&T. F: !F, (E), or a TEST");
        // Of try t three numbers are as the bits of t: by m, d and k.
        RodDips x = new RodDips();
        for (int t = 0; t < 8; t++) x.tryout(t & 1, t >> 1 & 1, t >> 2 & 1, 0, 0);
        String[] texts = {"m=1|d=1&k=1", "(m=1|d=1)&k=1", "m=1&d=1|k=1", "m=1&(d=1|k=1)", "!m=1&d=1", "!(m=1&d=1)", "!m=1|d=1",
            "!(m=1|d=1)", "!!m=1", "!!!m=1", "m=1|d=1|k=1", "m=1&d=1&k=1", "m=1|!(d=1|!(k=1&!m=1))", "!m=1&!d=1&!k=1", "((m=1))&(((d=1)))"};
        int[] bits = {0b11101010, 0b11100000, 0b11111000, 0b10101000, 0b01000100, 0b01110111, 0b11011101,
            0b00010001, 0b10101010, 0b01010101, 0b11111110, 0b10000000, 0b10111010, 0b00000001, 0b10001000};
        for (int i = 0; i < texts.length; i++) {
            x.image();
            check.due("plan() of " + texts[i], Check.planWide(x, "take " + texts[i]), 0);
            check.due("take " + texts[i], x.told(0, 2), bits[i]);
            check.due("plan() of drop", Check.planWide(x, "drop " + texts[i]), 1);
            check.due("drop " + texts[i], x.told(1, 2), 255 & ~bits[i]);
            x.undo();
        }
    }

    private static void hits() {
        check.promise("A HIT: NEAR is no more than hit");
        RodDips x = new RodDips();
        x.barn(100);
        int[] nears = {0, 1, 2, 50, 98, 99};
        for (int near : nears) x.tryout(0, 0, 0, 99, 99 - near);
        int[] hit = {0, 1, 2, 3, 49, 50, 51, 97, 98, 99};
        int[] want = {1, 3, 7, 7, 7, 15, 15, 15, 31, 63};
        for (int i = 0; i < hit.length; i++) {
            x.image();
            Check.planWide(x, "hit " + hit[i]);
            check.due("hits of hit " + hit[i], x.told(0, 3), want[i]);
            Check.planWide(x, "drop t=0;hit " + hit[i]);
            check.due("hits of counted ones", x.told(1, 3), want[i] & ~1);
            x.undo();
        }
    }

    private static void passes() {
        check.promise("A MAN PASSES, if of his COUNTED ones need or more are HITS");
        RodDips x = new RodDips();
        // Man m has m hits, man 5 has one try that is none.
        for (int man = 1; man < 5; man++) for (int i = 0; i < man; i++) x.tryout(man, i, 0, 3, 3);
        x.tryout(5, 0, 0, 3, 4);
        int[] want = {63, 0b011110, 0b011100, 0b011000, 0b010000, 0};
        for (int need = 0; need < 6; need++) {
            x.image();
            Check.planWide(x, "need " + need);
            check.due("passes by need " + need, x.passes(0), want[need]);
            Check.planWide(x, "drop d=0;need " + need);
            check.due("passes without one each", x.passes(1), need == 0 ? 63 : need == 5 ? 0 : want[need + 1]);
            Check.planWide(x, "drop d<9;need " + need);
            check.due("passes without counted ones", x.passes(2), need == 0 ? 63 : 0);
            x.undo();
        }
        Check.plan(x, "need 99");
        check.due("passes by need 99", x.passes(0), 0);
        for (int plan : new int[] {-1, 1, 5, MIN, MAX}) check.due("passes(" + plan + ")", x.passes(plan), NONE);
        RodDips y = new RodDips();
        Check.plan(y, "need 0");
        Check.plan(y, "need 1");
        Check.plan(y, "need 30");
        Check.plan(y, "need 31");
        check.due("need 0 without tries", y.passes(0), 63);
        check.due("need 1 without tries", y.passes(1), 0);
        for (int i = 0; i < 30; i++) y.tryout(5, 0, 0, 0, 0);
        check.due("thirty by need 30", y.passes(2), 32);
        check.due("thirty by need 31", y.passes(3), 0);
    }

    private static void told() {
        check.promise("told: what 0 hit, 1 need; 2 COUNTED TRIES, 3 HITS; NONE");
        RodDips x = seven();
        for (int what = -1; what < 5; what++) check.due("told(0, " + what + ") of none", x.told(0, what), NONE);
        Check.plan(x, "hit 2;need 3;drop t=0");
        for (int what : new int[] {-1, 4, 5, MIN, MAX}) {
            check.due("told(0, " + what + ")", x.told(0, what), NONE);
            check.due("told(1, " + what + ")", x.told(1, what), NONE);
        }
        int[] want = {2, 3, 126, 6};
        for (int what = 0; what < 4; what++) check.due("told(0, " + what + ")", x.told(0, what), want[what]);
        for (int plan : new int[] {-1, 1, MIN, MAX}) check.due("told(" + plan + ", 0)", x.told(plan, 0), NONE);
    }
}
