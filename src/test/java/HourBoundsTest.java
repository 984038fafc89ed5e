/** Section 2 and promises 10 to 13, sentence by sentence: what stands at a bound, just below it and just above it. */
public final class HourBoundsTest {
    private static final String Z = Check.SLEEPS_ALL_DAY;
    private static final String W = Check.WORKS_ALL_DAY;
    private static final String R = Check.RESTS_ALL_DAY;

    public static void main(String[] args) {
        soManyHoursACall();
        noBedsNoHours();
        hoursAreFull();
        hoursOneByOne();
        whoIsTiredSleeps();
        sleepEases();
        aBedIsFree();
        deepSleep();
        aBreakEndsSleep();
        workAndRestTire();
        theDayGoesRound();
        debtsOfTheHour();
        debtsInOrder();
        aDebtIsCalledOnce();
        thePurseIsFull();
        draws();
        drawsWithoutPeople();
        aWokenOneIsTired();
        givingAtBounds();
        givingMoreThanThereIs();
        givingToAFullPurse();
        changingAtBounds();
        changingFromNowOn();
        Check.end();
    }

    private static void is(SleepMint x, int p, int tired, int purse, int sleep) {
        int h = x.told(7);
        Check.due("TIRED of " + p + " at hour " + h, x.person(p, 0), tired);
        Check.due("PURSE of " + p + " at hour " + h, x.person(p, 1), purse);
        Check.due("SLEEP of " + p + " at hour " + h, x.person(p, 2), sleep);
    }

    private static void soManyHoursACall() {
        Check.says("Promises 10, 11: n HOURS (1 .. 96): HOURS. OUTSIDE");
        SleepMint x = Check.town("m1 2 1;");
        for (int n : new int[] {0, -1, 97, Integer.MIN_VALUE, Integer.MAX_VALUE}) {
            Check.due("hour(" + n + ")", x.hour(n), Check.OUTSIDE);
            Check.due("drift(" + n + ")", x.drift(n), Check.OUTSIDE);
        }
        Check.due("told(7)", x.told(7), 0);
        Check.due("hour(1)", x.hour(1), 1);
        Check.due("hour(96)", x.hour(96), 97);
        Check.due("drift(1)", x.drift(1), 98);
        Check.due("drift(96)", x.drift(96), 194);
        Check.due("told(7)", x.told(7), 194);
    }

    private static void noBedsNoHours() {
        Check.says("Promises 10, 11: OUTSIDE, NOT: no BEDS");
        SleepMint x = new SleepMint();
        for (int n : new int[] {1, 96}) {
            Check.due("hour(" + n + ")", x.hour(n), Check.NOT);
            Check.due("drift(" + n + ")", x.drift(n), Check.NOT);
        }
        for (int n : new int[] {0, 97}) {
            Check.due("hour(" + n + ")", x.hour(n), Check.OUTSIDE);
            Check.due("drift(" + n + ")", x.drift(n), Check.OUTSIDE);
        }
        Check.due("told(7)", x.told(7), 0);
        Check.due("seed(0): no draw", x.seed(0), 0);
        Check.tell(x, "m1 2 1;");
        Check.due("hour(1) with BEDS", x.hour(1), 1);
    }

    /** Only behind the 512th call, from which on answers are free: but the sentence holds there, too. */
    private static void hoursAreFull() {
        Check.says("Promises 10, 11: FULL: HOURS are above 90000.");
        SleepMint x = Check.town("m1 2 1;p60 0" + Z + ";");
        for (int k = 0; k < 937; k++) x.hour(96);
        x.keep(0);
        Check.due("hour(48)", x.hour(48), 90000);
        Check.due("hour(1) at 90000", x.hour(1), 90001);
        Check.due("hour(1) at 90001", x.hour(1), Check.FULL);
        Check.due("drift(96) at 90001", x.drift(96), Check.FULL);
        Check.due("hour(0) at 90001", x.hour(0), Check.OUTSIDE);
        Check.due("drift(97) at 90001", x.drift(97), Check.OUTSIDE);
        Check.due("told(7)", x.told(7), 90001);
        Check.due("seed(0): no draw", x.seed(0), 0);
        x.goBack(0);
        Check.due("drift(48)", x.drift(48), 90000);
        Check.due("drift(96) at 90000", x.drift(96), 90096);
        Check.due("drift(1) at 90096", x.drift(1), Check.FULL);
        Check.due("hour(1) at 90096", x.hour(1), Check.FULL);
    }

    private static void hoursOneByOne() {
        Check.says("Promises 10, 11: n HOURS");
        String text = "m1 3 7;p31 4zzzzzzwww...zzzzzzwww...;p44 9zzzzzz......zzzzzzwwwwww;d0 5 9;d1 30 20;d0 71 99;";
        SleepMint atOnce = Check.town(text);
        SleepMint oneByOne = Check.town(text);
        atOnce.hour(96);
        for (int k = 0; k < 96; k++) oneByOne.hour(1);
        new Look(oneByOne).isDue("96 times hour(1)", new Look(atOnce));
        atOnce.drift(96);
        for (int k = 0; k < 96; k++) oneByOne.drift(1);
        new Look(oneByOne).isDue("96 times drift(1)", new Look(atOnce));
        Check.due("seed(0)", oneByOne.seed(0), atOnce.seed(0));
    }

    private static void whoIsTiredSleeps() {
        Check.says("if his ROW says z at its hour, he is TIRED (above 0) and a BED is free, he SLEEPS");
        SleepMint x = Check.town("m5 2 9;p0 3" + Z + ";p1 3" + Z + ";p1 3" + W + ";p1 3" + R + ";");
        x.hour(1);
        is(x, 0, 1, 3, 0);
        is(x, 1, 0, 4, 1);
        is(x, 2, 4, 3, 0);
        is(x, 3, 2, 3, 0);
        Check.due("told(10)", x.told(10), 2);
    }

    private static void sleepEases() {
        Check.says("SLEEP 1 more, TIRED 4 less (0 at least)");
        int[] left = {1, 0, 0, 0, 0, 1, 2};
        for (int tired = 0; tired < left.length; tired++) {
            SleepMint x = Check.town("m1 9 9;p" + tired + " 0" + Z + ";");
            x.hour(1);
            is(x, 0, left[tired], tired == 0 ? 0 : 1, tired == 0 ? 0 : 1);
        }
    }

    private static void aBedIsFree() {
        Check.says("a BED is free (BEDS less those who sleep in this HOUR already)");
        for (int beds = 1; beds <= 5; beds++) {
            SleepMint x = Check.town("m" + beds + " 2 1;" + ("p9 0" + Z + ";").repeat(5));
            x.hour(1);
            Check.due("told(10) with BEDS " + beds, x.told(10), (1 << beds) - 1);
            for (int p = 0; p < 5; p++) is(x, p, p < beds ? 5 : 10, p < beds ? 1 : 0, p < beds ? 1 : 0);
        }
        // Who does not sleep takes no BED: neither who is not tired nor who works or rests.
        SleepMint y = Check.town("m1 2 1;p0 0" + Z + ";p9 0" + W + ";p9 0" + R + ";p9 0" + Z + ";p9 0" + Z + ";");
        y.hour(1);
        Check.due("told(10)", y.told(10), 8);
        // A BED is free again in the next HOUR; the least goes first, whoever lay in it.
        y.hour(1);
        Check.due("told(10)", y.told(10), 1);
        is(y, 3, 6, 1, 0);
    }

    private static void deepSleep() {
        Check.says("PURSE 1 more, or G, if SLEEP is D or more");
        for (int deep = 2; deep <= 9; deep++) {
            for (int gain : new int[] {1, 2, 9}) {
                SleepMint x = Check.town("m1 " + deep + " " + gain + ";p60 0" + Z + ";");
                x.hour(deep - 1);
                is(x, 0, 60 - 4 * (deep - 1), deep - 1, deep - 1);
                x.hour(1);
                is(x, 0, 60 - 4 * deep, deep - 1 + gain, deep);
                x.hour(1);
                is(x, 0, 60 - 4 * (deep + 1), deep - 1 + 2 * gain, deep + 1);
            }
        }
    }

    private static void aBreakEndsSleep() {
        Check.says("A SLEEP of one: how many hours he slept without a break until now; Else SLEEP is 0");
        for (char pause : new char[] {'.', 'w'}) {
            SleepMint x = Check.town("m1 3 9;p60 0zz" + pause + "zzz" + Z.substring(6) + ";");
            x.hour(2);
            Check.due("SLEEP", x.person(0, 2), 2);
            x.hour(1);
            Check.due("SLEEP behind " + pause, x.person(0, 2), 0);
            x.hour(2);
            Check.due("PURSE", x.person(0, 1), 4);
            x.hour(1);
            Check.due("PURSE", x.person(0, 1), 13);
        }
        // Not to be tired ends it, and so does a BED that another one has.
        SleepMint y = Check.town("m1 2 9;p0 0" + R.substring(1) + "z;p8 0" + Z + ";");
        y.hour(2);
        is(y, 1, 0, 10, 2);
        y.hour(1);
        is(y, 1, 1, 10, 0);
        SleepMint v = Check.town("m1 2 9;p9 0.z" + R.substring(2) + ";p9 0" + Z + ";");
        v.hour(1);
        is(v, 1, 5, 1, 1);
        v.hour(1);
        is(v, 1, 6, 1, 0);
        v.hour(1);
        is(v, 1, 2, 2, 1);
    }

    private static void workAndRestTire() {
        Check.says("if it says w, TIRED is 3 more (99 at most), if . or z, 1 more");
        SleepMint x = Check.town("m1 2 1;p60 0" + W + ";p58 0" + W + ";p59 0" + W + ";p60 0" + R + ";");
        x.hour(12);
        int[] twelve = {96, 94, 95, 72};
        for (int p = 0; p < 4; p++) is(x, p, twelve[p], 0, 0);
        x.hour(1);
        int[] thirteen = {99, 97, 98, 73};
        for (int p = 0; p < 4; p++) is(x, p, thirteen[p], 0, 0);
        x.hour(1);
        for (int p = 0; p < 3; p++) is(x, p, 99, 0, 0);
        x.hour(24);
        is(x, 3, 98, 0, 0);
        x.hour(1);
        is(x, 3, 99, 0, 0);
        x.hour(1);
        for (int p = 0; p < 4; p++) is(x, p, 99, 0, 0);
        // Who finds no BED: 1 more, and at 99 it stays.
        String row = W.substring(12) + Z.substring(12);
        SleepMint y = Check.town("m1 2 1;p60 0" + row + ";p58 0" + row + ";p59 0w" + row.substring(1) + ";");
        y.hour(12);
        is(y, 1, 94, 0, 0);
        y.hour(4);
        is(y, 0, 80, 4, 4);
        is(y, 1, 98, 0, 0);
        is(y, 2, 99, 0, 0);
        y.hour(1);
        is(y, 1, 99, 0, 0);
        is(y, 2, 99, 0, 0);
        y.hour(1);
        is(y, 1, 99, 0, 0);
    }

    private static void theDayGoesRound() {
        Check.says("HOURS are counted from 0; the hour of a day is what is left over by 24");
        SleepMint x = Check.town("m1 9 1;p10 0z......................w;");
        x.hour(1);
        is(x, 0, 6, 1, 1);
        x.hour(22);
        is(x, 0, 28, 1, 0);
        x.hour(1);
        is(x, 0, 31, 1, 0);
        x.hour(1);
        is(x, 0, 27, 2, 1);
        x.hour(1);
        is(x, 0, 28, 2, 0);
        x.hour(23 + 24 * 2 - 1);
        is(x, 0, 28 + 21 + 3 + 2 * (22 + 3 - 4), 4, 0);
        // Sleep goes on from the last hour of a day to the first of the next one.
        SleepMint y = Check.town("m1 4 5;p60 0zz" + R.substring(4) + "zz;");
        y.hour(24);
        is(y, 0, 60 - 8 + 20 - 8, 4, 2);
        y.hour(1);
        is(y, 0, 60, 5, 3);
        y.hour(1);
        is(y, 0, 56, 10, 4);
        y.hour(1);
        is(y, 0, 57, 10, 0);
    }

    private static void debtsOfTheHour() {
        Check.says("Then DEBTS of hour t: PAID, if PURSE has as much (less by V then); else SHORT (nothing is paid)");
        SleepMint x = Check.town("m5 2 1;p0 9" + R + ";p0 8" + R + ";p9 8" + Z + ";p0 99" + R + ";p0 10" + R
            + ";d0 0 9;d1 0 9;d2 0 9;d3 0 99;d4 0 9;");
        x.hour(1);
        int[] left = {0, 8, 0, 0, 1};
        for (int p = 0; p < 5; p++) Check.due("PURSE of " + p, x.person(p, 1), left[p]);
        Check.due("told(8)", x.told(8), 1 + 4 + 8 + 16);
        Check.due("told(9)", x.told(9), 2);
        // At hour H, not ahead of it: 0, 5 and 71.
        SleepMint y = Check.town("m1 2 1;p0 9" + R + ";d0 0 1;d0 5 1;d0 71 1;");
        Check.due("debt(0, 3) ahead of hour 0", y.debt(0, 3), 0);
        y.hour(1);
        Check.due("debt(0, 3) behind hour 0", y.debt(0, 3), 1);
        y.hour(4);
        Check.due("debt(1, 3) ahead of hour 5", y.debt(1, 3), 0);
        y.hour(1);
        Check.due("debt(1, 3) behind hour 5", y.debt(1, 3), 1);
        y.hour(65);
        Check.due("debt(2, 3) ahead of hour 71", y.debt(2, 3), 0);
        y.hour(1);
        Check.due("debt(2, 3) behind hour 71", y.debt(2, 3), 1);
        is(y, 0, 72, 6, 0);
    }

    private static void debtsInOrder() {
        Check.says("DEBTS of hour t, in order");
        SleepMint x = Check.town("m1 2 1;p0 10" + R + ";d0 0 6;d0 0 6;d0 0 4;d0 0 1;");
        x.hour(1);
        Check.due("told(8)", x.told(8), 1 + 4);
        Check.due("told(9)", x.told(9), 2 + 8);
        Check.due("PURSE", x.person(0, 1), 0);
        SleepMint y = Check.town("m1 2 1;p0 10" + R + ";d0 0 4;d0 0 6;d0 0 6;");
        y.hour(1);
        Check.due("told(8)", y.told(8), 1 + 2);
        Check.due("told(9)", y.told(9), 4);
    }

    private static void aDebtIsCalledOnce() {
        Check.says("DEBTS that are called at an hour");
        // What fell SHORT is not asked for again, though he has more than enough later; what was PAID neither.
        SleepMint x = Check.town("m1 2 9;p60 5" + Z + ";d0 0 50;d0 1 2;");
        x.hour(96);
        Check.due("told(8)", x.told(8), 2);
        Check.due("told(9)", x.told(9), 1);
        int purse = x.person(0, 1);
        x.change(0, 0, 2);
        x.change(0, 1, 2);
        x.hour(2);
        Check.due("PURSE two hours later", x.person(0, 1), purse);
    }

    private static SleepMint rich() {
        String row = "zzzzzzzzzzwwwwwwwwwwwwww";
        SleepMint x = Check.town("m5 2 9;p60 99" + row + ";p60 99" + row + ";");
        for (int k = 0; k < 40; k++) x.hour(96);
        return x;
    }

    private static void thePurseIsFull() {
        Check.says("PURSE is 9999 at most.");
        SleepMint x = rich();
        Check.due("PURSE", x.person(0, 1), 9999);
        x.give(0, 1, 1);
        Check.due("PURSE", x.person(0, 1), 9998);
        x.hour(1);
        is(x, 0, 95, 9999, 1);
        x.give(0, 1, 9);
        x.hour(1);
        is(x, 0, 91, 9999, 2);
        x.give(0, 1, 8);
        x.hour(1);
        is(x, 0, 87, 9999, 3);
        x.give(0, 1, 10);
        x.hour(1);
        is(x, 0, 83, 9998, 4);
        x.hour(1);
        is(x, 0, 79, 9999, 5);
        x.hour(1);
        is(x, 0, 75, 9999, 6);
        Check.due("richest(200, 1)", x.richest(200, 1), 9999);
    }

    private static long nextSeed(long seed) {
        return (seed * 1103515245L + 12345L) % 2147483648L;
    }

    private static void draws() {
        Check.says("THE SEED (0 at first: each DRAW it becomes it times 1103515245 and 12345, left over by 2 to the 31)");
        int[] seeds = {0, 1, 2, 65535, 65536, 1073741823, 1073741824, 2147483646, 2147483647};
        for (int seed : seeds) {
            SleepMint x = Check.town("m1 2 1;");
            Check.due("seed(" + seed + ")", x.seed(seed), 0);
            x.drift(1);
            Check.due("seed(0) behind a DRAW of " + seed, x.seed(0), nextSeed(seed));
        }
        Check.says("ahead of each a DRAW of 6: on 0 a DRAW of PEOPLE is woken");
        for (int seed = 0; seed < 60; seed++) {
            int given = seed * 35791394;
            SleepMint x = Check.town("m5 2 1;" + ("p9 0" + Z + ";").repeat(5));
            x.seed(given);
            x.drift(1);
            long first = nextSeed(given);
            long second = nextSeed(first);
            int woken = first / 65536 % 6 == 0 ? (int) (second / 65536 % 5) : -1;
            for (int p = 0; p < 5; p++) is(x, p, p == woken ? 10 : 5, 1, 1);
            Check.due("seed(0) behind drift(1) of " + given, x.seed(0), woken < 0 ? first : second);
        }
    }

    private static void drawsWithoutPeople() {
        Check.says("a DRAW of PEOPLE (if there are any)");
        SleepMint x = Check.town("m1 2 1;");
        // The DRAW of 6 is 0 here, and there is no second one.
        Check.due("drift(1)", x.drift(1), 1);
        Check.due("seed(0)", x.seed(0), 12345);
        long seed = 0;
        for (int k = 0; k < 96; k++) seed = nextSeed(seed);
        Check.due("drift(96)", x.drift(96), 97);
        Check.due("seed(0)", x.seed(0), seed);
    }

    private static void aWokenOneIsTired() {
        Check.says("is woken: SLEEP 0, TIRED 5 more (99 at most)");
        // Of the seed 0 the first DRAW of 6 is 0: one person alone is woken, then sleeps again, and 4 are slept off.
        int[] before = {57, 58, 59, 60};
        int[] behind = {94, 95, 95, 95};
        for (int k = 0; k < 4; k++) {
            SleepMint x = Check.town("m1 2 9;p" + before[k] + " 0" + W.substring(12) + Z.substring(12) + ";");
            x.hour(12);
            Check.due("TIRED", x.person(0, 0), before[k] + 36);
            x.drift(1);
            is(x, 0, behind[k], 1, 1);
        }
        // One who is not tired is so by waking him.
        SleepMint y = Check.town("m1 2 9;p0 0" + Z + ";");
        y.drift(1);
        is(y, 0, 1, 1, 1);
        // His sleep begins anew, and is not deep.
        SleepMint v = Check.town("m1 2 9;p60 0" + Z + ";");
        v.hour(2);
        is(v, 0, 52, 10, 2);
        v.drift(1);
        is(v, 0, 53, 11, 1);
        // At work he is woken, too.
        SleepMint w = Check.town("m1 2 9;p0 0" + W + ";");
        w.drift(1);
        is(w, 0, 8, 0, 0);
        Check.due("told(10)", w.told(10), 0);
    }

    private static void givingAtBounds() {
        Check.says("Promise 12: A PERSON gives another one v (1 .. 999): what he has left. UNKNOWN (one twice, too), OUTSIDE");
        SleepMint x = rich();
        Check.due("give(0, 1, 0)", x.give(0, 1, 0), Check.OUTSIDE);
        Check.due("give(0, 1, -1)", x.give(0, 1, -1), Check.OUTSIDE);
        Check.due("give(0, 1, 1000)", x.give(0, 1, 1000), Check.OUTSIDE);
        Check.due("give(0, 1, -2147483648)", x.give(0, 1, Integer.MIN_VALUE), Check.OUTSIDE);
        Check.due("give(0, 1, 2147483647)", x.give(0, 1, Integer.MAX_VALUE), Check.OUTSIDE);
        Check.due("PURSE of 0", x.person(0, 1), 9999);
        Check.due("give(0, 1, 1)", x.give(0, 1, 1), 9998);
        Check.due("give(0, 1, 999)", x.give(0, 1, 999), 8999);
        for (int other : new int[] {-1, 2, 5, Integer.MIN_VALUE, Integer.MAX_VALUE}) {
            Check.due("give(0, " + other + ", 1)", x.give(0, other, 1), Check.UNKNOWN);
            Check.due("give(" + other + ", 0, 1)", x.give(other, 0, 1), Check.UNKNOWN);
            Check.due("give(" + other + ", " + other + ", 0)", x.give(other, other, 0), Check.UNKNOWN);
        }
        Check.due("give(0, 0, 1)", x.give(0, 0, 1), Check.UNKNOWN);
        Check.due("give(1, 1, 1000)", x.give(1, 1, 1000), Check.UNKNOWN);
        Check.due("PURSE of 0", x.person(0, 1), 8999);
        Check.due("give(0, 0, 1) where there is one", Check.town("m1 2 1;p0 9" + R + ";").give(0, 0, 1), Check.UNKNOWN);
    }

    private static void givingMoreThanThereIs() {
        Check.says("Promise 12: OUTSIDE, NOT: he has less.");
        SleepMint x = Check.town("m1 2 1;p0 7" + R + ";p0 0" + R + ";");
        Check.due("give(1, 0, 1)", x.give(1, 0, 1), Check.NOT);
        Check.due("give(0, 1, 8)", x.give(0, 1, 8), Check.NOT);
        Check.due("give(0, 1, 999)", x.give(0, 1, 999), Check.NOT);
        Check.due("give(0, 1, 1000)", x.give(0, 1, 1000), Check.OUTSIDE);
        Check.due("give(1, 1, 1)", x.give(1, 1, 1), Check.UNKNOWN);
        Check.due("PURSE of 0", x.person(0, 1), 7);
        Check.due("PURSE of 1", x.person(1, 1), 0);
        Check.due("give(0, 1, 7)", x.give(0, 1, 7), 0);
        Check.due("PURSE of 1", x.person(1, 1), 7);
        Check.due("give(0, 1, 1)", x.give(0, 1, 1), Check.NOT);
        Check.due("give(1, 0, 6)", x.give(1, 0, 6), 1);
        Check.due("PURSE of 0", x.person(0, 1), 6);
    }

    private static void givingToAFullPurse() {
        Check.says("PURSE is 9999 at most: of a gift");
        SleepMint x = rich();
        Check.due("give(0, 1, 999)", x.give(0, 1, 999), 9000);
        Check.due("PURSE of 1", x.person(1, 1), 9999);
        Check.due("give(1, 0, 998)", x.give(1, 0, 998), 9001);
        Check.due("PURSE of 0", x.person(0, 1), 9998);
        Check.due("give(1, 0, 1)", x.give(1, 0, 1), 9000);
        Check.due("PURSE of 0", x.person(0, 1), 9999);
        Check.due("give(1, 0, 1)", x.give(1, 0, 1), 8999);
        Check.due("PURSE of 0", x.person(0, 1), 9999);
    }

    private static void changingAtBounds() {
        Check.says("Promise 13: at an hour of the day (0 z, 1 w, 2 .): what it said. UNKNOWN, OUTSIDE.");
        SleepMint x = Check.town("m1 2 1;p9 0w......................z;p9 0" + Z + ";");
        Check.due("change(0, -1, 0)", x.change(0, -1, 0), Check.OUTSIDE);
        Check.due("change(0, 24, 0)", x.change(0, 24, 0), Check.OUTSIDE);
        Check.due("change(1, 24, 0)", x.change(1, 24, 0), Check.OUTSIDE);
        Check.due("change(0, 0, -1)", x.change(0, 0, -1), Check.OUTSIDE);
        Check.due("change(0, 0, 3)", x.change(0, 0, 3), Check.OUTSIDE);
        Check.due("change(0, 24, 3)", x.change(0, 24, 3), Check.OUTSIDE);
        Check.due("change(0, -2147483648, 0)", x.change(0, Integer.MIN_VALUE, 0), Check.OUTSIDE);
        Check.due("change(0, 0, 2147483647)", x.change(0, 0, Integer.MAX_VALUE), Check.OUTSIDE);
        for (int p : new int[] {-1, 2, Integer.MIN_VALUE, Integer.MAX_VALUE}) {
            Check.due("change(" + p + ", 0, 0)", x.change(p, 0, 0), Check.UNKNOWN);
            Check.due("change(" + p + ", 24, 3)", x.change(p, 24, 3), Check.UNKNOWN);
        }
        Check.due("row(0, 0)", x.row(0, 0), 1);
        Check.due("row(0, 23)", x.row(0, 23), 0);
        Check.due("row(1, 0)", x.row(1, 0), 0);
        Check.due("change(0, 0, 0)", x.change(0, 0, 0), 1);
        Check.due("change(0, 0, 2)", x.change(0, 0, 2), 0);
        Check.due("change(0, 0, 2) again", x.change(0, 0, 2), 2);
        Check.due("change(0, 23, 1)", x.change(0, 23, 1), 0);
        Check.due("row(0, 0)", x.row(0, 0), 2);
        Check.due("row(0, 1)", x.row(0, 1), 2);
        Check.due("row(0, 22)", x.row(0, 22), 2);
        Check.due("row(0, 23)", x.row(0, 23), 1);
        Check.due("row(1, 0)", x.row(1, 0), 0);
    }

    private static void changingFromNowOn() {
        Check.says("Promise 13: A PERSON does otherwise at an hour of the day from now on");
        SleepMint x = Check.town("m1 9 1;p30 0" + R + ";");
        x.hour(1);
        is(x, 0, 31, 0, 0);
        // The hour that was is as it was; the one that comes is otherwise at once, and every day.
        x.change(0, 0, 1);
        is(x, 0, 31, 0, 0);
        x.change(0, 1, 0);
        x.hour(1);
        is(x, 0, 27, 1, 1);
        x.hour(22);
        is(x, 0, 49, 1, 0);
        x.hour(1);
        is(x, 0, 52, 1, 0);
        x.hour(1);
        is(x, 0, 48, 2, 1);
        x.hour(24);
        is(x, 0, 48 + 22 + 3 - 4, 3, 1);
    }
}
