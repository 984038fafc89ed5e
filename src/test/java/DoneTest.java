/** Promises 10 to 13: hours, hours by draws, giving, doing otherwise. */
public final class DoneTest {
    private static final String Z = Check.SLEEPS_ALL_DAY;
    private static final String W = Check.WORKS_ALL_DAY;
    private static final String R = Check.RESTS_ALL_DAY;

    public static void main(String[] args) {
        refusedHours();
        sleepGoesDeep();
        bedsAreFew();
        tiredHasBounds();
        daysGoRound();
        debtsAreCalled();
        purseHasABound();
        drawsWake();
        drawsWithoutPeople();
        giving();
        doingOtherwise();
        Check.end();
    }

    private static void is(SleepMint x, int p, int tired, int purse, int sleep) {
        Check.due("TIRED of " + p, x.person(p, 0), tired);
        Check.due("PURSE of " + p, x.person(p, 1), purse);
        Check.due("SLEEP of " + p, x.person(p, 2), sleep);
    }

    private static void refusedHours() {
        SleepMint x = new SleepMint();
        Check.due("hour(0)", x.hour(0), Check.OUTSIDE);
        Check.due("hour(97)", x.hour(97), Check.OUTSIDE);
        Check.due("hour(96)", x.hour(96), Check.NOT);
        Check.due("drift(0)", x.drift(0), Check.OUTSIDE);
        Check.due("drift(97)", x.drift(97), Check.OUTSIDE);
        Check.due("drift(1)", x.drift(1), Check.NOT);
        Check.due("seed(0) behind refusals", x.seed(0), 0);
        Check.tell(x, "m1 2 1;");
        Check.due("hour(96)", x.hour(96), 96);
        Check.due("drift(96)", x.drift(96), 192);
        Check.due("hour(-1)", x.hour(-1), Check.OUTSIDE);
        Check.due("told(7)", x.told(7), 192);
    }

    private static void sleepGoesDeep() {
        SleepMint x = Check.town("m1 3 5;p11 2 zzzzz" + W.substring(5) + ";");
        x.hour(1);
        is(x, 0, 7, 3, 1);
        x.hour(1);
        is(x, 0, 3, 4, 2);
        x.hour(1);
        is(x, 0, 0, 9, 3);
        Check.due("told(10)", x.told(10), 1);
        // Not tired any more: he cannot sleep, lies awake, and is tired by 1.
        x.hour(1);
        is(x, 0, 1, 9, 0);
        Check.due("told(10)", x.told(10), 0);
        x.hour(1);
        is(x, 0, 0, 10, 1);
        x.hour(1);
        is(x, 0, 3, 10, 0);
    }

    private static void bedsAreFew() {
        SleepMint x = Check.town("m2 2 9;p0 0 " + Z + ";p9 0 " + Z + ";p9 0 " + R + ";p9 0 " + Z + ";p9 0 " + Z + ";");
        x.hour(1);
        is(x, 0, 1, 0, 0);
        is(x, 1, 5, 1, 1);
        is(x, 2, 10, 0, 0);
        is(x, 3, 5, 1, 1);
        is(x, 4, 10, 0, 0);
        Check.due("told(10)", x.told(10), 10);
        // The first is tired now and comes first: the fourth is turned out.
        x.hour(1);
        is(x, 0, 0, 1, 1);
        is(x, 1, 1, 10, 2);
        is(x, 3, 6, 1, 0);
        Check.due("told(10)", x.told(10), 3);
    }

    private static void tiredHasBounds() {
        SleepMint x = Check.town("m1 2 1;p60 0 " + W + ";p60 0 " + R + ";");
        x.hour(12);
        is(x, 0, 96, 0, 0);
        x.hour(2);
        is(x, 0, 99, 0, 0);
        is(x, 1, 74, 0, 0);
        x.hour(24);
        is(x, 1, 98, 0, 0);
        x.hour(2);
        is(x, 1, 99, 0, 0);
    }

    private static void daysGoRound() {
        SleepMint x = Check.town("m1 9 1;p60 0 z" + R.substring(1) + ";");
        x.hour(24);
        is(x, 0, 79, 1, 0);
        x.hour(1);
        is(x, 0, 75, 2, 1);
        x.hour(96);
        Check.due("told(7)", x.told(7), 121);
        is(x, 0, 95, 6, 1);
    }

    private static void debtsAreCalled() {
        SleepMint x = Check.town("m1 2 3;p60 5 " + Z + ";p9 9 " + R
            + ";d0 2 9;d0 2 3;d0 2 1;d1 0 9;d1 0 1;d0 3 4;d1 71 1;");
        x.hour(1);
        Check.due("told(8)", x.told(8), 8);
        Check.due("told(9)", x.told(9), 16);
        is(x, 1, 10, 0, 0);
        x.hour(2);
        // 5 + 1 + 3 + 3 is 12: 9 and 3 are paid, nothing is left for the third.
        is(x, 0, 48, 0, 3);
        Check.due("told(8)", x.told(8), 11);
        Check.due("told(9)", x.told(9), 20);
        Check.due("debt(2, 3)", x.debt(2, 3), 2);
        Check.due("debt(5, 3)", x.debt(5, 3), 0);
        x.hour(1);
        // 3 are less than 4: nothing of it is paid.
        is(x, 0, 44, 3, 4);
        x.hour(67);
        Check.due("debt(6, 3) at 71", x.debt(6, 3), 0);
        x.hour(1);
        Check.due("debt(6, 3) behind 71", x.debt(6, 3), 2);
        x.hour(96);
        Check.due("told(8)", x.told(8), 11);
        Check.due("told(9)", x.told(9), 116);
    }

    private static SleepMint rich() {
        SleepMint x = Check.town("m5 2 9;p60 99 zzzzzzzzzzwwwwwwwwwwwwww;p60 99 zzzzzzzzzzwwwwwwwwwwwwww;");
        for (int k = 0; k < 40; k++) x.hour(96);
        return x;
    }

    private static void purseHasABound() {
        SleepMint x = rich();
        Check.due("person(0, 1)", x.person(0, 1), 9999);
        Check.due("give(0, 1, 999)", x.give(0, 1, 999), 9000);
        Check.due("person(1, 1)", x.person(1, 1), 9999);
        Check.due("give(1, 0, 5)", x.give(1, 0, 5), 9994);
        Check.due("person(0, 1)", x.person(0, 1), 9005);
    }

    private static void drawsWake() {
        // Of the seed 0 the draws of 6 are 0, then (of 1 person) 0: he is woken ahead of the first hour.
        SleepMint x = Check.town("m1 2 9;p20 0 " + Z + ";");
        Check.due("drift(1)", x.drift(1), 1);
        is(x, 0, 21, 1, 1);
        Check.due("seed(0)", x.seed(0), 1406932606);
        // Of 65536 the draw is 5: nobody is woken, and there is but one draw.
        x.seed(65536);
        x.drift(1);
        is(x, 0, 17, 10, 2);
        Check.due("seed(0)", x.seed(0), nextSeed(65536));
        x.drift(1);
        is(x, 0, 18, 11, 1);
        Check.due("told(7)", x.told(7), 3);
        SleepMint tired = Check.town("m1 2 9;p60 0 " + W + ";");
        tired.hour(13);
        tired.drift(1);
        is(tired, 0, 99, 0, 0);
    }

    private static int nextSeed(long seed) {
        return (int) ((seed * 1103515245L + 12345L) % (1L << 31));
    }

    private static void drawsWithoutPeople() {
        SleepMint x = Check.town("m1 2 9;");
        Check.due("drift(1)", x.drift(1), 1);
        Check.due("seed(0)", x.seed(0), 12345);
    }

    private static void giving() {
        SleepMint x = Check.town("m1 2 9;p0 50 " + Z + ";p0 0 " + Z + ";");
        Check.due("give(0, 1, 50)", x.give(0, 1, 50), 0);
        Check.due("person(1, 1)", x.person(1, 1), 50);
        Check.due("give(0, 1, 1)", x.give(0, 1, 1), Check.NOT);
        Check.due("give(1, 0, 51)", x.give(1, 0, 51), Check.NOT);
        Check.due("give(1, 0, 1)", x.give(1, 0, 1), 49);
        Check.due("give(1, 0, 0)", x.give(1, 0, 0), Check.OUTSIDE);
        Check.due("give(1, 0, 1000)", x.give(1, 0, 1000), Check.OUTSIDE);
        Check.due("give(1, 0, 999)", x.give(1, 0, 999), Check.NOT);
        Check.due("give(1, 1, 0)", x.give(1, 1, 0), Check.UNKNOWN);
        Check.due("give(2, 0, 0)", x.give(2, 0, 0), Check.UNKNOWN);
        Check.due("give(0, -1, 0)", x.give(0, -1, 0), Check.UNKNOWN);
        Check.due("person(0, 1)", x.person(0, 1), 1);
        Check.due("person(1, 1)", x.person(1, 1), 49);
    }

    private static void doingOtherwise() {
        SleepMint x = Check.town("m1 2 9;p20 0 " + Z + ";p20 0 " + W + ";");
        Check.due("change(0, 0, 1)", x.change(0, 0, 1), 0);
        Check.due("change(0, 0, 2)", x.change(0, 0, 2), 1);
        Check.due("change(1, 23, 0)", x.change(1, 23, 0), 1);
        Check.due("row(0, 0)", x.row(0, 0), 2);
        Check.due("row(0, 1)", x.row(0, 1), 0);
        Check.due("row(1, 23)", x.row(1, 23), 0);
        x.hour(1);
        is(x, 0, 21, 0, 0);
        Check.due("change(0, 24, 0)", x.change(0, 24, 0), Check.OUTSIDE);
        Check.due("change(0, -1, 0)", x.change(0, -1, 0), Check.OUTSIDE);
        Check.due("change(0, 0, 3)", x.change(0, 0, 3), Check.OUTSIDE);
        Check.due("change(0, 0, -1)", x.change(0, 0, -1), Check.OUTSIDE);
        Check.due("change(2, 24, 3)", x.change(2, 24, 3), Check.UNKNOWN);
    }
}
