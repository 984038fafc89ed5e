/** What stands ahead of the promises: "What it is" and "Terms", and that objects are each their own. */
public final class TermsTest {
    private static final String Z = Check.SLEEPS_ALL_DAY;
    private static final String W = Check.WORKS_ALL_DAY;
    private static final String R = Check.RESTS_ALL_DAY;
    private static final int MOST_CALLS = 512;

    public static void main(String[] args) {
        soManyCalls();
        numbersFromNoughtOn();
        aSetHasABitForEach();
        whatIsDividedIsCut();
        refusalsAreFarBelow();
        unknownIsWhatThereIsNot();
        objectsAreTheirOwn();
        theSameCallsTheSameAnswers();
        Check.end();
    }

    private static void soManyCalls() {
        Check.says("An object is used for at most 512 calls after it has been made");
        String text = "m2 3 9;p40 5" + Z + ";p30 7zzzzzzzzwwwwwwww........;c7;d0 20 9;d1 60 30;u1 4;";
        SleepMint x = Check.town(text);
        SleepMint twin = Check.town(text);
        int calls = text.length() + 1;
        twin.hour(24);
        for (int h = 0; h < 24; h++) x.hour(1);
        calls += 24;
        // What is asked changes nothing, however often it is asked; the last call of all is answered like the first.
        while (calls < MOST_CALLS - 1) {
            x.life(calls % 2, 1 + calls % 48, Check.NONE);
            calls++;
        }
        Check.due("life(0, 48, -1), the 512th call", x.life(0, 48, Check.NONE), twin.life(0, 48, Check.NONE));
        SleepMint y = new SleepMint();
        for (int k = 1; k < MOST_CALLS; k++) y.seed(k);
        Check.due("seed(9), the 512th call", y.seed(9), MOST_CALLS - 1);
    }

    private static void numbersFromNoughtOn() {
        Check.says("What has a number has it from 0 on, as it comes.");
        String text = "m1 2 1;p1 11" + Z + ";c30;d0 5 6;p2 12" + W + ";c20;d1 4 7;p3 13" + R + ";c10;d0 3 8;";
        SleepMint x = Check.good(text, 3);
        for (int p = 0; p < 3; p++) {
            Check.due("TIRED of " + p, x.person(p, 0), p + 1);
            Check.due("PURSE of " + p, x.person(p, 1), p + 11);
            Check.due("ROW of " + p, x.row(p, 0), p);
            Check.due("coin(" + p + ")", x.coin(p), 30 - 10 * p);
            Check.due("hour of debt " + p, x.debt(p, 1), 5 - p);
            Check.due("value of debt " + p, x.debt(p, 2), 6 + p);
        }
        // Entries of the book, letters of the text, hours of a life.
        x.write(0, 11);
        x.write(1, 0);
        Check.due("judge()", x.judge(), 1);
        x.tear();
        x.write(1, 0);
        Check.due("judge()", x.judge(), 0);
        Check.due("life(2, 2, 0)", x.life(2, 2, 0), 0);
        Check.due("life(2, 2, 1)", x.life(2, 2, 1), 1);
        Check.bad("x", 1, 0);
        Check.bad("mx", 1, 1);
    }

    private static void aSetHasABitForEach() {
        Check.says("A SET is a whole number, bit k for k.");
        for (int p = 0; p < 5; p++) {
            StringBuilder people = new StringBuilder("m5 2 1;");
            for (int k = 0; k < 5; k++) people.append(k == p ? "p9 9" + Z + ";" : "p10 0" + R + ";");
            SleepMint x = Check.town(people + "u" + p + " 20;");
            Check.due("robbed(0, 20, 1)", x.robbed(0, 20, 1), 1 << p);
            Check.due("robbed(0, 24, 2)", x.robbed(0, 24, 2), 31);
            Check.due("run(0, 0)", x.run(0, 0), 31);
            Check.due("run(0, 1)", x.run(0, 1), 1 << p);
            x.hour(1);
            Check.due("told(10)", x.told(10), 1 << p);
        }
        for (int d = 0; d < 8; d++) {
            StringBuilder debts = new StringBuilder("m1 2 1;p0 20" + R + ";");
            for (int k = 0; k < 8; k++) debts.append("d0 ").append(k == d ? 0 : 1).append(" 10;");
            SleepMint x = Check.town(debts.toString());
            x.hour(1);
            Check.due("told(8)", x.told(8), 1 << d);
            Check.due("told(9)", x.told(9), 0);
            x.hour(1);
            // 10 are left for the first of the seven others.
            Check.due("told(8)", x.told(8), 1 << d | (d == 0 ? 2 : 1));
            Check.due("told(9)", x.told(9), 255 & ~(1 << d | (d == 0 ? 2 : 1)));
        }
    }

    private static void whatIsDividedIsCut() {
        Check.says("All numbers are whole; / cuts towards 0.");
        SleepMint x = Check.town("m1 2 1;p19 1" + Z + ";p9 1" + Z + ";p29 1" + Z + ";");
        // 19 / 10 is 1, 9 / 10 is 0, 29 / 10 is 2.
        Check.due("run(9, 0)", x.run(9, 0), 7);
        Check.due("prices(199, 1, 0, 0): 1, then 0", x.prices(199, 1, 0, 0), 2);
        Check.due("prices(3, 67, 1, 1): 2.01 is 2, and 1 more 3", x.prices(3, 67, 1, 1), 3);
        Check.due("isFalse(1, 1, 2, 1, 1): 1 of 199", x.isFalse(1, 1, 2, 1, 1), 5025);
        Check.due("isFalse(1, 100, 50, 1, 1): 2 of 101", x.isFalse(1, 100, 50, 1, 1), 19801);
    }

    private static void refusalsAreFarBelow() {
        Check.says("NONE is -1. REFUSALS are far below all that is counted: -1000000001 and on.");
        int[] refusals = {SleepMint.UNKNOWN, SleepMint.OUTSIDE, SleepMint.NOT, SleepMint.FULL};
        for (int k = 0; k < 4; k++) Check.due("refusal " + k, refusals[k], -1000000001 - k);
        Check.due("NONE", SleepMint.NONE, -1);
        SleepMint x = Check.town("m1 2 1;p0 0" + R + ";d0 0 1;");
        Check.due("person(1, 0)", x.person(1, 0), SleepMint.UNKNOWN);
        Check.due("person(0, 4)", x.person(0, 4), SleepMint.OUTSIDE);
        Check.due("goBack(0)", x.goBack(0), SleepMint.NOT);
        for (int k = 0; k < 15; k++) x.write(0, 0);
        Check.due("write(0, 0)", x.write(0, 0), SleepMint.FULL);
        Check.due("judge()", x.judge(), SleepMint.NONE);
        Check.due("life(0, 1, -1)", x.life(0, 1, SleepMint.NONE), SleepMint.NONE);
    }

    private static void unknownIsWhatThereIsNot() {
        Check.says("UNKNOWN (a PERSON, DEBT, COIN, IMAGE that there is not; bits of such)");
        SleepMint x = Check.town("m1 2 1;p0 9" + R + ";p0 9" + R + ";c5;d0 0 1;");
        int[] answers = {x.person(2, 0), x.row(2, 0), x.give(2, 0, 1), x.give(0, 2, 1), x.change(2, 0, 0), x.life(2, 1, -1),
            x.shift(1, 2), x.write(2, 0), x.debt(1, 0), x.coin(1), x.keep(2), x.goBack(2), x.robbed(4, 0, 0), x.robbed(7, 0, 0)};
        for (int k = 0; k < answers.length; k++) Check.due("what there is not, " + k, answers[k], Check.UNKNOWN);
        // A worth is no COIN's number: one that is no COIN is not UNKNOWN.
        Check.due("coins(5, 4)", x.coins(5, 4), 0);
    }

    private static void objectsAreTheirOwn() {
        Check.says("A new object: No BEDS");
        String[] texts = {"m1 2 9;p60 5" + Z + ";c7;d0 9 99;u0 5;", "m2 4 3;p8 50" + R + ";p50 1" + Z + ";c9;d1 2 1;"};
        SleepMint[] mixed = {new SleepMint(), new SleepMint()};
        for (int i = 0; i < 60; i++) {
            for (int k = 0; k < 2; k++) {
                if (i < texts[k].length()) mixed[k].feed(texts[k].charAt(i));
            }
        }
        for (int k = 0; k < 2; k++) {
            Check.feedAll(mixed[k], texts[k].length() > 60 ? texts[k].substring(60) : "");
            mixed[k].capital();
        }
        for (int step = 0; step < 9; step++) {
            for (SleepMint each : mixed) lives(each, step);
        }
        for (int k = 0; k < 2; k++) {
            SleepMint alone = Check.town(texts[k]);
            for (int step = 0; step < 9; step++) lives(alone, step);
            new Look(mixed[k]).isDue("calls of another object between", new Look(alone));
            Check.due("life(0, 20, -1)", mixed[k].life(0, 20, -1), alone.life(0, 20, -1));
            Check.due("coins(63, -1)", mixed[k].coins(63, -1), alone.coins(63, -1));
            Check.due("seed(0)", mixed[k].seed(0), alone.seed(0));
        }
        new Look(new SleepMint()).isDue("other objects", new Look(new SleepMint()));
        Check.due("told(0) of a new object", new SleepMint().told(0), 0);
    }

    private static void lives(SleepMint x, int step) {
        switch (step) {
            case 0: x.seed(5); break;
            case 1: x.drift(7); break;
            case 2: x.keep(0); break;
            case 3: x.life(0, 9, -1); break;
            case 4: x.coins(20, -1); break;
            case 5: x.write(0, 3); break;
            case 6: x.change(0, 8, 1); break;
            case 7: x.drift(30); break;
            default: x.feed('m');
        }
    }

    private static void theSameCallsTheSameAnswers() {
        Check.says("the same calls always give the same answers");
        SleepMint x = Check.town("m1 3 5;p31 4zzzzzzwww...zzzzzzwww...;p44 9" + Z + ";c6;c25;d0 5 9;d1 30 20;");
        x.drift(9);
        int[] first = tried(x);
        for (int time = 0; time < 3; time++) {
            int[] again = tried(x);
            for (int k = 0; k < first.length; k++) Check.due("answer " + k + " again", again[k], first[k]);
        }
    }

    private static int[] tried(SleepMint x) {
        return new int[] {x.firstShort(0), x.firstShort(1), x.richest(50, 0), x.richest(50, 1), x.life(0, 40, -1), x.life(0, 40, 39),
            x.life(1, 20, 5), x.life(1, 20, -1), x.shift(5, 1), x.coins(99, -1), x.coins(99, 25), x.strike(0), x.strike(1),
            x.isFalse(3, 90, 4, 7, 2), x.prices(7777, 88, 7, 0), x.prices(7777, 88, 7, 1), x.robbed(1, 2, 0), x.robbed(1, 2, 1),
            x.robbed(1, 2, 2), x.run(10, 0), x.run(10, 1), x.judge(), x.told(7), x.told(8), x.told(9), x.told(10)};
    }
}
