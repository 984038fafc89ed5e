/** Promises 1 to 9: a new object, the text and its faults, what was told. */
public final class CapitalTest {
    private static final String Z = Check.SLEEPS_ALL_DAY;
    private static final String TOWN = "m2 4 7;p60 99 " + Z + ";p0 0 " + Check.WORKS_ALL_DAY
        + ";c60;c2;d0 0 1;d1 71 99;u1 20;";

    public static void main(String[] args) {
        newObject();
        feeding();
        fullTexts();
        goodTexts();
        clausesAtTheirBounds();
        blanks();
        misplaced();
        badNumbers();
        tooMany();
        toldAgain();
        firstFaultCounts();
        whatAFaultLeaves();
        whatACapitalEnds();
        emptyTexts();
        lookingAtPeople();
        lookingAtCoinsAndDebts();
        Check.end();
    }

    private static void newObject() {
        SleepMint x = new SleepMint();
        for (int what = 0; what < 12; what++) Check.due("told(" + what + ")", x.told(what), 0);
        Check.due("fault()", x.fault(), Check.NONE);
        Check.due("person(0, 0)", x.person(0, 0), Check.UNKNOWN);
        Check.due("row(0, 0)", x.row(0, 0), Check.UNKNOWN);
        Check.due("coin(0)", x.coin(0), Check.UNKNOWN);
        Check.due("debt(0, 0)", x.debt(0, 0), Check.UNKNOWN);
        Check.due("hour(1)", x.hour(1), Check.NOT);
        Check.due("goBack(0)", x.goBack(0), Check.NOT);
        Check.due("judge()", x.judge(), Check.NONE);
        Check.due("seed(0)", x.seed(0), 0);
    }

    private static void feeding() {
        SleepMint x = new SleepMint();
        Check.due("feed(-1)", x.feed(-1), Check.OUTSIDE);
        Check.due("feed(256)", x.feed(256), Check.OUTSIDE);
        Check.due("feed(0)", x.feed(0), 1);
        Check.due("feed(255)", x.feed(255), 2);
        for (int k = 3; k <= 250; k++) Check.due("feed(32)", x.feed(32), k);
        Check.due("feed(32) at 250", x.feed(32), Check.FULL);
        Check.due("feed(256) at 250", x.feed(256), Check.OUTSIDE);
        Check.due("told(6)", x.told(6), 250);
        Check.due("capital()", x.capital(), -11);
        Check.due("told(6) behind capital()", x.told(6), 0);
        Check.due("feed(109) behind capital()", x.feed(109), 1);
    }

    private static void fullTexts() {
        Check.good("m1 2 1;" + " ".repeat(243), 0);
        Check.bad("m1 2 1;" + " ".repeat(242) + "c", 1, 250);
        Check.bad("m1 2 1;" + " ".repeat(241) + "c5", 1, 250);
        Check.bad("m1 2 1;" + " ".repeat(237) + "p0 0 z", 1, 250);
        // The 251st letter was refused, so the clause has no end.
        Check.bad("m1 2 1;" + " ".repeat(241) + "c5;", 1, 250);
    }

    private static void goodTexts() {
        SleepMint x = new SleepMint();
        Check.due("capital()", Check.tell(x, TOWN), 2);
        int[] want = {2, 4, 7, 2, 2, 2, 0, 0, 0, 0, 0, 0};
        for (int what = 0; what < 12; what++) Check.due("told(" + what + ")", x.told(what), want[what]);
        Check.due("told(-1)", x.told(-1), Check.OUTSIDE);
        Check.due("told(12)", x.told(12), Check.OUTSIDE);
        Check.due("fault()", x.fault(), Check.NONE);
    }

    private static void clausesAtTheirBounds() {
        Check.good("m1 2 1;", 0);
        Check.good("m5 9 9;", 0);
        Check.good("m005 009 009;", 0);
        Check.bad("m0 2 1;", 2, 1);
        Check.bad("m6 2 1;", 2, 1);
        Check.bad("m1 1 1;", 2, 3);
        Check.bad("m1 10 1;", 2, 3);
        Check.bad("m1 2 0;", 2, 5);
        Check.bad("m1 2 10;", 2, 5);
        String m = "m1 2 1;";
        Check.good(m + "p0 0 " + Z + ";", 1);
        Check.good(m + "p60 99 " + Z + ";", 1);
        Check.bad(m + "p61 0 " + Z + ";", 2, 8);
        Check.bad(m + "p0 100 " + Z + ";", 2, 10);
        Check.good(m + "c2;c60;", 0);
        Check.bad(m + "c1;", 2, 8);
        Check.bad(m + "c61;", 2, 8);
        String p = m + "p0 0 " + Z + ";";
        Check.good(p + "d0 0 1;d0 71 99;", 1);
        Check.bad(p + "d1 0 1;", 2, 38);
        Check.bad(p + "d0 72 1;", 2, 40);
        Check.bad(p + "d0 0 0;", 2, 42);
        Check.bad(p + "d0 0 100;", 2, 42);
        Check.good(p + "u0 1;", 1);
        Check.good(p + "u0 20;", 1);
        Check.bad(p + "u1 1;", 2, 38);
        Check.bad(p + "u0 0;", 2, 40);
        Check.bad(p + "u0 21;", 2, 40);
    }

    private static void blanks() {
        Check.good("  m 1  2 1 ; p 0 0zzzzzzzzzzzzwwwwww......; c 2 ; ", 1);
        Check.good("m1 2 1;p0 0z z z z z z z z z z z z z z z z z z z z z z z z;", 1);
        Check.bad("m1 2\t1;", 1, 4);
        Check.bad("m1 2 1 1;", 1, 7);
        Check.bad("m1 21;", 2, 3);
        Check.bad("m1 2;", 1, 4);
    }

    private static void misplaced() {
        Check.bad("c5;", 1, 0);
        Check.bad("x", 1, 0);
        Check.bad(";", 1, 0);
        Check.bad(" p", 1, 1);
        Check.bad("m", 1, 1);
        Check.bad("m  ", 1, 3);
        Check.bad("m1 2 1", 1, 6);
        Check.bad("m1 2 1;;", 1, 7);
        Check.bad("m1 2 1;y", 1, 7);
        Check.bad("m1 2 1;M", 1, 7);
        Check.bad("mx", 1, 1);
        Check.bad("m1 2 1;p0 0 zz x", 1, 15);
        Check.bad("m1 2 1;p0 0 zzzz;", 1, 16);
        Check.bad("m1 2 1;p0 0 zzzz", 1, 16);
        Check.bad("m1 2 1;p0 0 " + Z + "z;", 1, 36);
        Check.bad("m1 2 1;p0 0 " + Z, 1, 36);
        Check.bad("m1 2 1;c5 6;", 1, 10);
        Check.bad("m1 2 1;p0 " + Z + ";", 1, 10);
        Check.bad("m1 2 1;" + (char) 233, 1, 7);
    }

    private static void badNumbers() {
        Check.bad("m1234 2 1;", 2, 1);
        Check.bad("m0001 2 1;", 2, 1);
        Check.bad("m1 2 1;p0001 0 " + Z + ";", 2, 8);
        Check.bad("m1 2 1;p0 0000 " + Z + ";", 2, 10);
        Check.bad("m1 2 1;c99999999999999;", 2, 8);
        Check.bad("m1 2 1;c4294967298;", 2, 8);
        Check.bad("m1 2 1;d0 0 1;", 2, 8);
        Check.bad("m1 2 1;u0 1;", 2, 8);
        Check.bad("m1 2 1;d999", 2, 8);
    }

    private static void tooMany() {
        String one = "p0 0 " + Z + ";";
        String m = "m1 2 1;";
        Check.bad(m + "m", 3, 7);
        Check.good(m + one + one + one + one + one, 5);
        Check.bad(m + one + one + one + one + one + "p", 3, 7 + 5 * one.length());
        Check.good(m + "c2;c3;c4;c5;", 0);
        Check.bad(m + "c2;c3;c4;c5;c", 3, 19);
        String debts = "d0 0 1;d0 0 1;d0 0 1;d0 0 1;d0 0 1;d0 0 1;d0 0 1;d0 0 1;";
        Check.good(m + one + debts, 1);
        Check.bad(m + one + debts + "d", 3, 7 + one.length() + debts.length());
    }

    private static void toldAgain() {
        String p = "m1 2 1;p0 0 " + Z + ";p0 0 " + Z + ";";
        Check.bad("m1 2 1;c5;c5;", 4, 11);
        Check.bad("m1 2 1;c5;c005;", 4, 11);
        Check.bad("m1 2 1;c5;c5x", 4, 11);
        Check.good(p + "u0 1;u1 1;", 2);
        Check.bad(p + "u0 1;u0", 4, p.length() + 6);
        Check.bad(p + "u1 1;u 1 99;", 4, p.length() + 7);
    }

    private static void firstFaultCounts() {
        Check.bad("m9 9x", 2, 1);
        Check.bad("m1 2 1;c61 x", 2, 8);
        Check.bad("m1 2 1;p0 0 zxx;m", 1, 13);
        Check.bad("m1 2 1;c5;c0005;", 2, 11);
    }

    private static void whatAFaultLeaves() {
        SleepMint x = Check.town(TOWN);
        x.hour(5);
        x.write(0, 3);
        x.keep(1);
        Check.due("capital() with a fault", Check.tell(x, "m5 5 5;p1 1 " + Z + ";c9;c9;"), -14);
        Check.due("fault()", x.fault(), 41);
        int[] want = {2, 4, 7, 2, 2, 2, 0, 5, 1, 0, 1, 1};
        for (int what = 0; what < 12; what++) Check.due("told(" + what + ")", x.told(what), want[what]);
        Check.due("person(0, 0)", x.person(0, 0), 40);
        Check.due("coin(0)", x.coin(0), 60);
        Check.due("person(1, 3)", x.person(1, 3), 20);
        Check.due("goBack(1)", x.goBack(1), 1);
    }

    private static void whatACapitalEnds() {
        SleepMint x = Check.town(TOWN);
        x.seed(77);
        x.hour(5);
        x.write(0, 3);
        x.keep(0);
        Check.due("capital()", Check.tell(x, "m1 3 5;p7 8 " + Z + ";"), 1);
        int[] want = {1, 3, 5, 1, 0, 0, 0, 0, 0, 0, 0, 0};
        for (int what = 0; what < 12; what++) Check.due("told(" + what + ")", x.told(what), want[what]);
        Check.due("person(0, 2)", x.person(0, 2), 0);
        Check.due("person(0, 3)", x.person(0, 3), 1);
        Check.due("goBack(0)", x.goBack(0), Check.NOT);
        Check.due("judge()", x.judge(), Check.NONE);
        Check.due("seed(0)", x.seed(0), 77);
    }

    private static void emptyTexts() {
        SleepMint x = Check.town(TOWN);
        Check.due("capital() of nothing", x.capital(), 0);
        for (int what = 0; what < 12; what++) Check.due("told(" + what + ")", x.told(what), 0);
        Check.due("hour(1)", x.hour(1), Check.NOT);
        Check.due("person(0, 0)", x.person(0, 0), Check.UNKNOWN);
        Check.due("capital() of blanks", Check.tell(x, "   "), 0);
        Check.due("fault() of blanks", x.fault(), Check.NONE);
    }

    private static void lookingAtPeople() {
        SleepMint x = Check.town("m1 2 1;p31 17 zw.zw.zw.zw.zw.zw.zw.zw.;p0 0 " + Z + ";u0 13;");
        int[] want = {31, 17, 0, 13};
        for (int what = 0; what < 4; what++) Check.due("person(0, " + what + ")", x.person(0, what), want[what]);
        Check.due("person(1, 3)", x.person(1, 3), 1);
        Check.due("person(0, 4)", x.person(0, 4), Check.OUTSIDE);
        Check.due("person(0, -1)", x.person(0, -1), Check.OUTSIDE);
        Check.due("person(2, 9)", x.person(2, 9), Check.UNKNOWN);
        Check.due("person(-1, 0)", x.person(-1, 0), Check.UNKNOWN);
        for (int h = 0; h < 24; h++) Check.due("row(0, " + h + ")", x.row(0, h), h % 3);
        Check.due("row(0, 24)", x.row(0, 24), Check.OUTSIDE);
        Check.due("row(0, -1)", x.row(0, -1), Check.OUTSIDE);
        Check.due("row(2, 24)", x.row(2, 24), Check.UNKNOWN);
    }

    private static void lookingAtCoinsAndDebts() {
        SleepMint x = Check.town(TOWN);
        Check.due("coin(0)", x.coin(0), 60);
        Check.due("coin(1)", x.coin(1), 2);
        Check.due("coin(2)", x.coin(2), Check.UNKNOWN);
        Check.due("coin(-1)", x.coin(-1), Check.UNKNOWN);
        int[] want = {1, 71, 99, 0};
        for (int what = 0; what < 4; what++) Check.due("debt(1, " + what + ")", x.debt(1, what), want[what]);
        Check.due("debt(1, 4)", x.debt(1, 4), Check.OUTSIDE);
        Check.due("debt(1, -1)", x.debt(1, -1), Check.OUTSIDE);
        Check.due("debt(2, 9)", x.debt(2, 9), Check.UNKNOWN);
        Check.due("debt(-1, 0)", x.debt(-1, 0), Check.UNKNOWN);
        x.hour(72);
        Check.due("debt(0, 3)", x.debt(0, 3), 1);
        Check.due("debt(1, 3)", x.debt(1, 3), 2);
        Check.due("told(8)", x.told(8), 1);
        Check.due("told(9)", x.told(9), 2);
    }
}
