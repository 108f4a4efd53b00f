/** Promises 7 to 9: plan, told, passes. */
public final class PlansTest {
    private static final Check check = new Check();

    public static void main(String[] args) {
        check.promise("7");
        numbers();
        faults();
        depth();
        clauses();
        full();
        check.promise("8");
        told();
        tests();
        joins();
        check.promise("9");
        passes();
        check.end();
    }

    private static void fault(String text, int place) {
        RodDips x = new RodDips();
        check.due("plan() of '" + text + "'", Check.plan(x, text), -10 - place);
        check.due("count(2) then", x.count(2), 0);
        check.due("count(4) then", x.count(4), 0);
    }

    private static void sound(String text) {
        RodDips x = new RodDips();
        check.due("plan() of '" + text + "'", Check.plan(x, text), 0);
        check.due("count(2) then", x.count(2), 1);
        check.due("count(4) then", x.count(4), 0);
    }

    private static void numbers() {
        sound("hit 0");
        sound("need 99");
        fault("hit 100", 6);
        fault("hit 00", 5);
        fault("hit 05", 5);
        fault("hit  1", 4);
        fault("hit ", 4);
        fault("hit -1", 4);
        fault("hit 1 ", 5);
        fault("take m=012", 8);
        fault("take m=123", 9);
        fault("hit :", 4);
        fault("hit 1:", 5);
        fault("hit /", 4);
        fault("hit 1/", 5);
        fault("take m=:", 7);
    }

    private static void faults() {
        fault("", 0);
        fault(";", 0);
        fault("x", 0);
        fault(" hit 1", 0);
        fault("Hit 1", 0);
        fault("h", 1);
        fault("hi", 2);
        fault("hit", 3);
        fault("hit1", 3);
        fault("need 1;", 7);
        fault("need 1;;", 7);
        fault("need 1; hit 1", 7);
        fault("near 1", 2);
        fault("at 1 m=1", 0);
        fault("take", 4);
        fault("take ", 5);
        fault("take 1", 5);
        fault("take p=1", 5);
        fault("take l=1", 5);
        fault("take m", 6);
        fault("take m~1", 6);
        fault("take m=", 7);
        fault("take m==1", 7);
        fault("take m=1&", 9);
        fault("take m=1|", 9);
        fault("take m=1)", 8);
        fault("take m=1 |d=1", 8);
        fault("take m=1&|d=1", 9);
        fault("take ()", 6);
        fault("take (m=1", 9);
        fault("take (m=1;hit 1", 9);
        fault("take !", 6);
        fault("take m=1!", 8);
        fault("drop\u00e9", 4);
        fault("take \u00ed=1", 5);
        fault("take m\u00bd1", 6);
    }

    private static void depth() {
        sound("take !!!!!m=1");
        fault("take !!!!!!m=1", 10);
        sound("take (((((m=1)))))");
        fault("take ((((((m=1))))))", 10);
        sound("take !(!(!m=1))");
        fault("take !(!(!(m=1)))", 10);
        sound("take !!!!!m=1&!!!!!m=1|(((((m=1)))))&!!!!!m=1");
        sound("take !(((m=1)&(m=1)|!m=2))");
        fault("take ((((!m=1&(!m=1)))))", 15);
        sound("take ((((!m=1&(m=1)))))");
    }

    private static void clauses() {
        sound(Check.repeated("hit 1;", 7) + "hit 1");
        fault(Check.repeated("hit 1;", 8) + "hit 1", 47);
        fault(Check.repeated("hit 1;", 8), 47);
        sound("take " + Check.repeated("m=1|", 28) + "m=1");
        fault("take " + Check.repeated("m=1|", 28) + "m=", 119);
    }

    private static void full() {
        RodDips x = new RodDips();
        for (int i = 0; i < 5; i++) check.due("the " + i + "th", Check.plan(x, "hit " + i), i);
        check.due("the 5th", Check.plan(x, "hit 1"), -4);
        check.due("the tape stays", x.count(4), 5);
        check.due("full, with a fault", Check.plan(x, "x"), -4);
        check.due("the tape stays", x.count(4), 6);
        check.due("a law of it", x.law(), -10);
        for (int i = 0; i < 5; i++) check.due("told(" + i + ", 0)", x.told(i, 0), i);
    }

    /** Tries 0 .. 6 of several men, days, kinds, excuses and nears. */
    private static RodDips tried() {
        RodDips x = new RodDips();
        x.barn(20);
        x.tryout(0, 1, 2, 5, 6);
        x.tryout(0, 1, 4, 12, 10);
        x.tryout(0, 2, 3, 19, 3);
        x.tryout(1, 2, 1, 7, 7);
        x.tryout(1, 3, 6, 0, 9);
        x.tryout(2, 3, 5, 11, 12);
        x.tryout(0, 12, 0, 8, 8);
        x.excuse(2, 2);
        x.excuse(4, 1);
        return x;
    }

    private static void told() {
        RodDips x = tried();
        check.due("no plan", x.told(0, 0), -1);
        Check.plan(x, "take m=0");
        check.due("hit without", x.told(0, 0), 0);
        check.due("need without", x.told(0, 1), 1);
        check.due("counted", x.told(0, 2), 0b1000111);
        check.due("hits", x.told(0, 3), 0b1000000);
        Check.plan(x, "hit 3;need 0;hit 1;need 4;drop m=1");
        check.due("the last hit", x.told(1, 0), 1);
        check.due("the last need", x.told(1, 1), 4);
        check.due("all but dropped ones", x.told(1, 2), 0b1100111);
        check.due("hits of these", x.told(1, 3), 0b1100001);
        Check.plan(x, "take m=1;take d=1;drop k=4;drop k=6");
        check.due("some take, no drop", x.told(2, 2), 0b0001001);
        Check.plan(x, "hit 99");
        check.due("all", x.told(3, 2), 127);
        check.due("hits of all", x.told(3, 3), 127);
        check.due("what -1", x.told(0, -1), -1);
        check.due("what 4", x.told(0, 4), -1);
        check.due("plan -1", x.told(-1, 0), -1);
        eightClauses();
        afterFaults();
        check.due("plan 4", x.told(4, 0), -1);
    }

    private static void eightClauses() {
        RodDips x = tried();
        Check.plan(x, "take t=0;take t=1;take t=2;take t=3;take t=4;take t=5;take t=6;drop d=3");
        Check.plan(x, "drop t=0;drop t=1;drop t=2;drop t=3;take t=4;take t=4;take t=4;take t=5");
        check.due("the last drops", x.told(0, 2), 0b1001111);
        check.due("the last takes", x.told(1, 2), 0b0110000);
    }

    private static void afterFaults() {
        RodDips x = tried();
        for (int i = 0; i < 3; i++) {
            check.due("a fault late", Check.plan(x, "hit 7;need 5;take m=1;drop " + Check.repeated("!!!!!m=1&", 10) + "y"), -10 - 117);
        }
        check.due("nothing of it stays", Check.plan(x, "drop !!!!!m=1&!!!!!m=1&!!!!!m=1&!!!!!m=1|!!!!!m=1"), 0);
        check.due("hit", x.told(0, 0), 0);
        check.due("need", x.told(0, 1), 1);
        check.due("counted", x.told(0, 2), 0b0011000);
    }

    private static void counted(String e, int bits) {
        RodDips x = tried();
        check.due("plan() of '" + e + "'", Check.plan(x, "take " + e), 0);
        check.due("counted by '" + e + "'", x.told(0, 2), bits);
    }

    private static void tests() {
        counted("m<1", 0b1000111);
        counted("m=1", 0b0011000);
        counted("m>1", 0b0100000);
        counted("d<2", 0b0000011);
        counted("d=12", 0b1000000);
        counted("k>4", 0b0110000);
        counted("x=0", 0b1101011);
        counted("x=1", 0b0010000);
        counted("x=2", 0b0000100);
        counted("t<3", 0b0000111);
        counted("s=10", 0b0000010);
        counted("s>9", 0b0100010);
        counted("n=16", 0b0000100);
        counted("n<1", 0b1001000);
        counted("t>98", 0);
    }

    private static void joins() {
        counted("m=1|t=0&d=9", 0b0011000);
        counted("(m=1|t=0)&d=2", 0b0001000);
        counted("d=9&t=0|m=1", 0b0011000);
        counted("!m=0&d=3", 0b0110000);
        counted("!(m=0&d=1)", 0b1111100);
        counted("!!t=3", 0b0001000);
        counted("!!!t=3|t=3&!t=3", 0b1110111);
        counted("t=1|t=2&t>1|t=5&!(t=6|t=5&!d=3)", 0b0100110);
    }

    private static void passes() {
        RodDips x = tried();
        check.due("no plan", x.passes(0), -1);
        Check.plan(x, "hit 1;need 2");
        Check.plan(x, "hit 1");
        Check.plan(x, "need 0;take t>50");
        Check.plan(x, "hit 16;need 2;drop t=4");
        check.due("need 2", x.passes(0), 0b001);
        check.due("need 1", x.passes(1), 0b111);
        check.due("need 0 of none", x.passes(2), 0b111111);
        check.due("only of counted ones", x.passes(3), 0b001);
        Check.plan(x, "take m=1");
        check.due("not the first man", x.passes(4), 0b010);
        check.due("plan 5", x.passes(5), -1);
        check.due("plan -1", x.passes(-1), -1);
    }
}
