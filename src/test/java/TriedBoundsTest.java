/** Section 3 and promises 14 to 23, sentence by sentence: what stands at a bound, just below it and just above it. */
public final class TriedBoundsTest {
    private static final String Z = Check.SLEEPS_ALL_DAY;
    private static final String R = Check.RESTS_ALL_DAY;
    private static final int[] NOT_0_OR_1 = {-1, 2, Integer.MIN_VALUE, Integer.MAX_VALUE};

    public static void main(String[] args) {
        firstShortIsAsked();
        firstShortByHoursThenByNumber();
        firstShortAheadAlone();
        richestIsAsked();
        richestOfLikeOnes();
        richestOfNobody();
        aLifeIsAsked();
        aLifeOfOneWhoIsNotTired();
        aLifeMeetsItsDebtsJustSo();
        aLifeAndDebtsOfOtherHours();
        aLifeWithAFullPurse();
        aLifeOfOneWhoIsMostTired();
        shiftsAreAsked();
        shiftsInSoManyBeds();
        changeIsAsked();
        changeAtBounds();
        changeOfTheNextTown();
        strikeIsAsked();
        strikeTheLeast();
        falseIsAsked();
        falseAtBounds();
        pricesAreAsked();
        pricesThatStay();
        pricesByTheLastRound();
        robbedIsAsked();
        robbedOfSoMuch();
        aRunIsAsked();
        aRunByTiredness();
        aRunOnTooLittle();
        nothingChanges();
        Check.end();
    }

    private static void firstShortIsAsked() {
        Check.says("Promise 14: what = 0 the DEBT, 1 the hour; NONE. OUTSIDE.");
        SleepMint x = Check.town("m1 2 1;p0 0" + R + ";d0 5 1;");
        SleepMint none = new SleepMint();
        for (int what : NOT_0_OR_1) {
            Check.due("firstShort(" + what + ")", x.firstShort(what), Check.OUTSIDE);
            Check.due("firstShort(" + what + ") without BEDS", none.firstShort(what), Check.OUTSIDE);
        }
        Check.due("firstShort(0)", x.firstShort(0), 0);
        Check.due("firstShort(1)", x.firstShort(1), 5);
        String[] nothingShort = {"", "m1 2 1;", "m1 2 1;p0 0" + R + ";", "m1 2 1;p0 9" + R + ";d0 0 9;"};
        for (String text : nothingShort) {
            Check.due("firstShort(0) of " + text, Check.town(text).firstShort(0), Check.NONE);
            Check.due("firstShort(1) of " + text, Check.town(text).firstShort(1), Check.NONE);
        }
    }

    private static void firstShortByHoursThenByNumber() {
        Check.says("FIRST SHORT: the first DEBT (by HOURS from now, then by number) that falls SHORT; at which hour");
        SleepMint x = Check.town("m1 2 1;p0 0" + R + ";p0 0" + R + ";d0 9 1;d1 3 1;d0 3 1;d0 4 1;");
        Check.due("firstShort(0)", x.firstShort(0), 1);
        Check.due("firstShort(1)", x.firstShort(1), 3);
        // One that has as much is PAID, and leaves less for the next of its hour.
        SleepMint y = Check.town("m1 2 1;p0 5" + R + ";d0 2 3;d0 2 3;d0 2 2;d0 3 1;");
        Check.due("firstShort(0)", y.firstShort(0), 1);
        Check.due("firstShort(1)", y.firstShort(1), 2);
        SleepMint v = Check.town("m1 2 1;p0 5" + R + ";d0 2 5;d0 3 1;");
        Check.due("firstShort(0)", v.firstShort(0), 1);
        // The eighth DEBT of the fifth PERSON.
        SleepMint last = Check.town("m1 2 1;" + ("p0 7" + R + ";").repeat(5) + "d0 0 1;".repeat(7) + "d4 71 8;");
        Check.due("firstShort(0)", last.firstShort(0), 7);
        Check.due("firstShort(1)", last.firstShort(1), 71);
    }

    private static void firstShortAheadAlone() {
        Check.says("FIRST SHORT: by HOURS from now, 80 at most");
        SleepMint x = Check.town("m1 2 1;p0 0" + R + ";d0 0 1;d0 71 1;");
        Check.due("firstShort(0) at 0", x.firstShort(0), 0);
        Check.due("firstShort(1) at 0", x.firstShort(1), 0);
        x.hour(1);
        // It fell SHORT already: the one at 71 is 70 hours from now.
        Check.due("firstShort(0) at 1", x.firstShort(0), 1);
        Check.due("firstShort(1) at 1", x.firstShort(1), 71);
        x.hour(70);
        Check.due("firstShort(0) at 71", x.firstShort(0), 1);
        Check.due("firstShort(1) at 71", x.firstShort(1), 71);
        x.hour(1);
        Check.due("firstShort(0) at 72", x.firstShort(0), Check.NONE);
        Check.due("firstShort(1) at 72", x.firstShort(1), Check.NONE);
    }

    private static void richestIsAsked() {
        Check.says("Promise 15: RICHEST behind n HOURS (0 .. 200): what = 0 who, 1 how much. OUTSIDE.");
        SleepMint x = Check.town("m2 2 1;p0 9" + R + ";p1 8" + Z + ";");
        Check.due("richest(-1, 0)", x.richest(-1, 0), Check.OUTSIDE);
        Check.due("richest(201, 0)", x.richest(201, 0), Check.OUTSIDE);
        Check.due("richest(-2147483648, 1)", x.richest(Integer.MIN_VALUE, 1), Check.OUTSIDE);
        Check.due("richest(2147483647, 1)", x.richest(Integer.MAX_VALUE, 1), Check.OUTSIDE);
        for (int what : NOT_0_OR_1) {
            Check.due("richest(0, " + what + ")", x.richest(0, what), Check.OUTSIDE);
            Check.due("richest(200, " + what + ")", x.richest(200, what), Check.OUTSIDE);
        }
        Check.due("richest(0, 0)", x.richest(0, 0), 0);
        Check.due("richest(0, 1)", x.richest(0, 1), 9);
        // Every other hour he sleeps: 9, 9, 10, 10, 11.
        Check.due("richest(2, 0)", x.richest(2, 0), 0);
        Check.due("richest(3, 0)", x.richest(3, 0), 1);
        Check.due("richest(3, 1)", x.richest(3, 1), 10);
        Check.due("richest(199, 1)", x.richest(199, 1), 8 + 100);
        Check.due("richest(200, 1)", x.richest(200, 1), 8 + 100);
        x.hour(1);
        Check.due("richest(200, 1) an hour later", x.richest(200, 1), 9 + 100);
    }

    private static void richestOfLikeOnes() {
        Check.says("RICHEST: who has most; of like ones the least");
        SleepMint x = Check.town("m1 2 1;p0 8" + R + ";p0 9" + R + ";p0 9" + R + ";p0 9" + R + ";p0 0" + R + ";d1 4 1;");
        Check.due("richest(4, 0)", x.richest(4, 0), 1);
        Check.due("richest(5, 0)", x.richest(5, 0), 2);
        Check.due("richest(5, 1)", x.richest(5, 1), 9);
        SleepMint poor = Check.town("m1 2 1;p0 0" + R + ";p0 0" + R + ";");
        Check.due("richest(0, 0) of poor ones", poor.richest(0, 0), 0);
        Check.due("richest(0, 1) of poor ones", poor.richest(0, 1), 0);
        SleepMint last = Check.town("m1 2 1;" + ("p0 0" + R + ";").repeat(4) + "p0 1" + R + ";");
        Check.due("richest(200, 0)", last.richest(200, 0), 4);
    }

    private static void richestOfNobody() {
        Check.says("Promise 15: NONE: no PEOPLE.");
        for (String text : new String[] {"", "m1 2 1;"}) {
            SleepMint x = Check.town(text);
            for (int n : new int[] {0, 200}) {
                Check.due("richest(" + n + ", 0) of " + text, x.richest(n, 0), Check.NONE);
                Check.due("richest(" + n + ", 1) of " + text, x.richest(n, 1), Check.NONE);
            }
            Check.due("richest(201, 0) of " + text, x.richest(201, 0), Check.OUTSIDE);
            Check.due("richest(0, 2) of " + text, x.richest(0, 2), Check.OUTSIDE);
        }
    }

    private static void aLifeIsAsked() {
        Check.says("Promise 16: A LIFE, n HOURS (1 .. 48): i = NONE how much, else what he does. UNKNOWN, OUTSIDE.");
        SleepMint x = Check.town("m1 2 1;" + ("p60 0" + R + ";").repeat(5));
        for (int p : new int[] {-1, 5, Integer.MIN_VALUE, Integer.MAX_VALUE}) {
            Check.due("life(" + p + ", 1, 0)", x.life(p, 1, 0), Check.UNKNOWN);
            Check.due("life(" + p + ", 49, -2)", x.life(p, 49, -2), Check.UNKNOWN);
        }
        for (int n : new int[] {0, -1, 49, Integer.MIN_VALUE, Integer.MAX_VALUE}) {
            Check.due("life(0, " + n + ", -1)", x.life(0, n, -1), Check.OUTSIDE);
            Check.due("life(0, " + n + ", 0)", x.life(0, n, 0), Check.OUTSIDE);
        }
        for (int i : new int[] {-2, 1, Integer.MIN_VALUE, Integer.MAX_VALUE}) {
            Check.due("life(0, 1, " + i + ")", x.life(0, 1, i), Check.OUTSIDE);
        }
        Check.due("life(0, 1, -1)", x.life(0, 1, -1), 1);
        Check.due("life(0, 1, 0)", x.life(0, 1, 0), 0);
        Check.due("life(4, 15, -1)", x.life(4, 15, -1), 15);
        Check.due("life(4, 15, 14)", x.life(4, 15, 14), 0);
        Check.due("life(4, 15, 15)", x.life(4, 15, 15), Check.OUTSIDE);
        // 60 are slept off in 15 hours; from then on an hour at work is slept off in one: 16 more of 33.
        Check.due("life(4, 48, -1)", x.life(4, 48, -1), 31);
        Check.due("life(4, 48, 47)", x.life(4, 48, 47) >= 0 ? 1 : 0, 1);
        Check.due("life(4, 48, 48)", x.life(4, 48, 48), Check.OUTSIDE);
        Check.due("life(4, 48, -2)", x.life(4, 48, -2), Check.OUTSIDE);
        Check.due("life(0, 1, -1) of nobody", Check.town("m1 2 1;").life(0, 1, -1), Check.UNKNOWN);
    }

    private static void aLifeOfOneWhoIsNotTired() {
        Check.says("at each HOUR he may sleep (if TIRED above 0, a BED for himself), or work, or rest");
        SleepMint x = Check.town("m1 2 9;p0 5" + Z + ";p1 5" + Z + ";p4 5" + Z + ";p5 5" + Z + ";");
        Check.due("life(0, 1, -1)", x.life(0, 1, -1), 5);
        Check.due("life(0, 1, 0)", x.life(0, 1, 0), 1);
        Check.due("life(1, 1, -1)", x.life(1, 1, -1), 6);
        Check.due("life(1, 1, 0)", x.life(1, 1, 0), 0);
        // 4 are slept off in one hour, 5 in two: the second one is deep.
        Check.due("life(2, 2, -1)", x.life(2, 2, -1), 6);
        Check.due("life(2, 2, 0)", x.life(2, 2, 0), 0);
        Check.due("life(2, 2, 1)", x.life(2, 2, 1), 1);
        Check.due("life(3, 2, -1)", x.life(3, 2, -1), 15);
        Check.due("life(3, 2, 1)", x.life(3, 2, 1), 0);
    }

    private static void aLifeMeetsItsDebtsJustSo() {
        Check.says("ways by which none of them falls SHORT: the most in PURSE behind it; NONE: no way.");
        SleepMint x = Check.town("m1 2 9;p0 5" + R + ";p0 5" + R + ";p1 5" + R + ";p1 5" + R + ";d0 0 5;d1 0 6;d2 0 6;d3 0 7;");
        Check.due("life(0, 1, -1)", x.life(0, 1, -1), 0);
        Check.due("life(0, 1, 0)", x.life(0, 1, 0), 1);
        Check.due("life(1, 1, -1)", x.life(1, 1, -1), Check.NONE);
        Check.due("life(1, 1, 0)", x.life(1, 1, 0), Check.NONE);
        Check.due("life(1, 48, 47)", x.life(1, 48, 47), Check.NONE);
        Check.due("life(1, 48, 48)", x.life(1, 48, 48), Check.OUTSIDE);
        Check.due("life(2, 1, -1)", x.life(2, 1, -1), 0);
        Check.due("life(2, 1, 0)", x.life(2, 1, 0), 0);
        Check.due("life(3, 1, -1)", x.life(3, 1, -1), Check.NONE);
        // Two of one hour: both, or none.
        SleepMint y = Check.town("m1 2 9;p0 5" + R + ";p0 5" + R + ";d0 0 2;d0 0 3;d1 0 2;d1 0 4;");
        Check.due("life(0, 1, -1)", y.life(0, 1, -1), 0);
        Check.due("life(1, 1, -1)", y.life(1, 1, -1), Check.NONE);
        // Asleep for 15 hours he has 1 and 14 times 9; all of his eight debts are owed at the end of them.
        String eight = "d0 14 99;d0 14 22;d0 14 1;d0 14 1;d0 14 1;d0 14 1;d0 14 1;d0 14 ";
        SleepMint just = Check.town("m1 2 9;p60 0" + R + ";" + eight + "1;");
        Check.due("life(0, 15, -1)", just.life(0, 15, -1), 0);
        for (int i = 0; i < 15; i++) Check.due("life(0, 15, " + i + ")", just.life(0, 15, i), 0);
        Check.due("life(0, 15, -1) of 1 more", Check.town("m1 2 9;p60 0" + R + ";" + eight + "2;").life(0, 15, -1), Check.NONE);
    }

    private static void aLifeAndDebtsOfOtherHours() {
        Check.says("A LIFE, n HOURS from now: his DEBTS are called as told");
        // Of an hour behind its last one none is called; of its last one they are.
        SleepMint x = Check.town("m1 2 9;p60 0" + R + ";d0 3 99;");
        Check.due("life(0, 3, -1)", x.life(0, 3, -1), 19);
        Check.due("life(0, 4, -1)", x.life(0, 4, -1), Check.NONE);
        x.hour(3);
        Check.due("life(0, 1, -1) at its hour", x.life(0, 1, -1), Check.NONE);
        x.hour(1);
        Check.due("life(0, 1, -1) behind it", x.life(0, 1, -1), 1);
        SleepMint y = Check.town("m1 2 1;p0 0" + R + ";d0 71 99;");
        y.hour(24);
        Check.due("life(0, 47, -1) at 24 has a way", y.life(0, 47, -1) >= 0 ? 1 : 0, 1);
        Check.due("life(0, 48, -1) at 24", y.life(0, 48, -1), Check.NONE);
        y.hour(47);
        Check.due("life(0, 1, -1) at 71", y.life(0, 1, -1), Check.NONE);
        y.hour(1);
        Check.due("life(0, 1, -1) at 72", y.life(0, 1, -1), 1);
        // Of another one none is called.
        SleepMint v = Check.town("m1 2 1;p1 0" + R + ";p1 0" + R + ";d1 0 99;");
        Check.due("life(0, 1, -1)", v.life(0, 1, -1), 1);
        Check.due("life(1, 1, -1)", v.life(1, 1, -1), Check.NONE);
    }

    private static void aLifeWithAFullPurse() {
        Check.says("PURSE is 9999 at most: of a life");
        String row = "zzzzzzzzzzwwwwwwwwwwwwww";
        SleepMint x = Check.town("m5 2 9;p60 99" + row + ";p60 99" + row + ";");
        for (int k = 0; k < 40; k++) x.hour(96);
        Check.due("life(0, 48, -1)", x.life(0, 48, -1), 9999);
        x.give(0, 1, 10);
        Check.due("life(0, 1, -1) of 9989", x.life(0, 1, -1), 9990);
        Check.due("life(0, 2, -1) of 9989", x.life(0, 2, -1), 9999);
        Check.due("life(0, 3, -1) of 9989", x.life(0, 3, -1), 9999);
        for (int i = 0; i < 3; i++) Check.due("life(0, 3, " + i + ")", x.life(0, 3, i), 0);
        x.give(0, 1, 1);
        Check.due("life(0, 2, -1) of 9988", x.life(0, 2, -1), 9998);
    }

    private static void aLifeOfOneWhoIsMostTired() {
        Check.says("TIRED is 0 to 99: of a life");
        SleepMint x = Check.town("m1 2 9;p60 0" + Check.WORKS_ALL_DAY + ";");
        x.hour(13);
        Check.due("TIRED", x.person(0, 0), 99);
        // 99 are slept off in 25 hours. By an hour at work first it would be a 26th, if he could be more tired.
        Check.due("life(0, 25, -1)", x.life(0, 25, -1), 1 + 24 * 9);
        Check.due("life(0, 26, -1)", x.life(0, 26, -1), 1 + 24 * 9);
        Check.due("life(0, 27, -1)", x.life(0, 27, -1), 1 + 24 * 9 + 1);
        for (int i = 0; i < 27; i++) Check.due("life(0, 27, " + i + ")", x.life(0, 27, i), i == 25 ? 1 : 0);
    }

    private static SleepMint crowd(int beds, int people) {
        return Check.town("m" + beds + " 2 1;" + ("p0 0" + Z + ";").repeat(people));
    }

    private static void shiftsAreAsked() {
        Check.says("Promise 17: each PERSON lies l hours (1 .. 12). UNKNOWN, OUTSIDE.");
        SleepMint x = crowd(1, 2);
        for (int p : new int[] {-1, 2, Integer.MIN_VALUE, Integer.MAX_VALUE}) {
            Check.due("shift(1, " + p + ")", x.shift(1, p), Check.UNKNOWN);
            Check.due("shift(13, " + p + ")", x.shift(13, p), Check.UNKNOWN);
        }
        for (int l : new int[] {0, -1, 13, Integer.MIN_VALUE, Integer.MAX_VALUE}) {
            Check.due("shift(" + l + ", 0)", x.shift(l, 0), Check.OUTSIDE);
        }
        Check.due("shift(1, 0)", x.shift(1, 0), 0);
        Check.due("shift(1, 1)", x.shift(1, 1), 1);
        Check.due("shift(12, 0)", x.shift(12, 0), 0);
        Check.due("shift(12, 1)", x.shift(12, 1), 12);
        Check.due("shift(1, 0) of nobody", Check.town("m1 2 1;").shift(1, 0), Check.UNKNOWN);
    }

    private static void shiftsInSoManyBeds() {
        Check.says("SHIFTS: beginning at 0 to 24 less l of one day, so that never more than BEDS lie; NONE.");
        // In one BED four lie 6 hours each, the last from 18 on, which is 24 less 6; five have no room.
        int[] begins = {0, 6, 12, 18};
        for (int p = 0; p < 4; p++) Check.due("shift(6, " + p + ")", crowd(1, 4).shift(6, p), begins[p]);
        for (int p = 0; p < 5; p++) Check.due("shift(6, " + p + ") of five", crowd(1, 5).shift(6, p), Check.NONE);
        Check.due("shift(7, 2) of three", crowd(1, 3).shift(7, 2), 14);
        Check.due("shift(8, 2) of three", crowd(1, 3).shift(8, 2), 16);
        Check.due("shift(9, 2) of three", crowd(1, 3).shift(9, 2), Check.NONE);
        Check.due("shift(4, 4) of five", crowd(1, 5).shift(4, 4), 16);
        Check.due("shift(5, 4) of five", crowd(1, 5).shift(5, 4), Check.NONE);
        for (int beds = 1; beds <= 5; beds++) {
            for (int people = 1; people <= 5; people++) heldAgainstAllShifts(beds, people);
        }
    }

    private static void heldAgainstAllShifts(int beds, int people) {
        SleepMint x = crowd(beds, people);
        PlainModel m = new PlainModel();
        String text = "m" + beds + " 2 1;" + ("p0 0" + Z + ";").repeat(people);
        for (int i = 0; i < text.length(); i++) m.feed(text.charAt(i));
        m.capital();
        for (int l = 1; l <= 12; l++) {
            for (int p = 0; p < people; p++) {
                Check.due("shift(" + l + ", " + p + ") of " + people + " in " + beds, x.shift(l, p), m.shift(l, p));
            }
        }
    }

    private static void changeIsAsked() {
        Check.says("Promise 18: CHANGE of v (0 .. 200): w = NONE how many COINS, else how many of worth w (1 .. 60). OUTSIDE.");
        SleepMint x = Check.town("m1 2 1;c2;c60;");
        for (int v : new int[] {-1, 201, Integer.MIN_VALUE, Integer.MAX_VALUE}) {
            Check.due("coins(" + v + ", -1)", x.coins(v, -1), Check.OUTSIDE);
            Check.due("coins(" + v + ", 1)", x.coins(v, 1), Check.OUTSIDE);
            Check.due("coins(" + v + ", 61)", x.coins(v, 61), Check.OUTSIDE);
        }
        for (int w : new int[] {-2, 0, 61, Integer.MIN_VALUE, Integer.MAX_VALUE}) {
            Check.due("coins(0, " + w + ")", x.coins(0, w), Check.OUTSIDE);
            Check.due("coins(200, " + w + ")", x.coins(200, w), Check.OUTSIDE);
        }
        // 200 is three of 60 and ten of 2.
        Check.due("coins(200, -1)", x.coins(200, -1), 13);
        Check.due("coins(200, 60)", x.coins(200, 60), 3);
        Check.due("coins(200, 2)", x.coins(200, 2), 10);
        Check.due("coins(200, 1)", x.coins(200, 1), 0);
        Check.due("coins(199, 1)", x.coins(199, 1), 1);
        Check.says("Promise 18: (0: not a COIN)");
        Check.due("coins(200, 3)", x.coins(200, 3), 0);
        Check.due("coins(200, 59)", x.coins(200, 59), 0);
    }

    private static void changeAtBounds() {
        Check.says("CHANGE: the fewest COINS (1 and those told), of like ones most of the greatest worth, then of the next");
        SleepMint x = Check.town("m1 2 1;c2;c60;");
        Check.due("coins(0, -1)", x.coins(0, -1), 0);
        for (int w : new int[] {1, 2, 60}) Check.due("coins(0, " + w + ")", x.coins(0, w), 0);
        Check.due("coins(1, -1)", x.coins(1, -1), 1);
        Check.due("coins(1, 1)", x.coins(1, 1), 1);
        Check.due("coins(2, 1)", x.coins(2, 1), 0);
        Check.due("coins(2, 2)", x.coins(2, 2), 1);
        Check.due("coins(59, 60)", x.coins(59, 60), 0);
        Check.due("coins(59, -1)", x.coins(59, -1), 30);
        Check.due("coins(60, 60)", x.coins(60, 60), 1);
        Check.due("coins(60, -1)", x.coins(60, -1), 1);
        // Without COINS told there is the one of 1.
        SleepMint none = Check.town("m1 2 1;");
        Check.due("coins(200, -1)", none.coins(200, -1), 200);
        Check.due("coins(200, 1)", none.coins(200, 1), 200);
        Check.due("coins(200, 2)", none.coins(200, 2), 0);
        // 21 is 10, 10 and 1, or three of 7: like ones, so most of the 10.
        SleepMint like = Check.town("m1 2 1;c7;c10;");
        Check.due("coins(21, -1)", like.coins(21, -1), 3);
        Check.due("coins(21, 10)", like.coins(21, 10), 2);
        Check.due("coins(21, 7)", like.coins(21, 7), 0);
        Check.due("coins(21, 1)", like.coins(21, 1), 1);
        // 18 is 10 and two of 4, or 10, 7 and 1, or 7, 7 and 4: of those with one 10 the one with most of the 7.
        SleepMint next = Check.town("m1 2 1;c4;c7;c10;");
        Check.due("coins(18, -1)", next.coins(18, -1), 3);
        Check.due("coins(18, 10)", next.coins(18, 10), 1);
        Check.due("coins(18, 7)", next.coins(18, 7), 1);
        Check.due("coins(18, 4)", next.coins(18, 4), 0);
        Check.due("coins(18, 1)", next.coins(18, 1), 1);
    }

    private static void changeOfTheNextTown() {
        Check.says("CHANGE: 1 and those told; a COIN of an earlier text is none any more");
        // 60 and 1 would be as few as 31 and 30, and 2 and 2 as few as 3 and 1, if they still were COINS.
        SleepMint x = Check.town("m1 2 1;c2;c60;");
        Check.due("coins(61, 60)", x.coins(61, 60), 1);
        Check.due("coins(4, 2)", x.coins(4, 2), 2);
        Check.tell(x, "m1 2 1;c30;c31;c3;");
        Check.due("coins(61, -1)", x.coins(61, -1), 2);
        Check.due("coins(61, 60)", x.coins(61, 60), 0);
        Check.due("coins(61, 31)", x.coins(61, 31), 1);
        Check.due("coins(61, 30)", x.coins(61, 30), 1);
        Check.due("coins(61, 1)", x.coins(61, 1), 0);
        Check.due("coins(4, -1)", x.coins(4, -1), 2);
        Check.due("coins(4, 2)", x.coins(4, 2), 0);
        Check.due("coins(4, 3)", x.coins(4, 3), 1);
        Check.due("coins(4, 1)", x.coins(4, 1), 1);
        // With a fault all is as it was.
        Check.tell(x, "m1 2 1;c60;c60;");
        Check.due("coins(61, 60) behind a fault", x.coins(61, 60), 0);
        x.capital();
        Check.due("coins(61, 31) of an empty text", x.coins(61, 31), 0);
        Check.due("coins(61, -1) of an empty text", x.coins(61, -1), 61);
        Check.due("strike(0) of an empty text", x.strike(0), 8);
    }

    private static void strikeIsAsked() {
        Check.says("Promise 19: what = 0 the worth, 1 COINS together. OUTSIDE.");
        SleepMint x = Check.town("m1 2 1;c8;");
        for (int what : NOT_0_OR_1) Check.due("strike(" + what + ")", x.strike(what), Check.OUTSIDE);
        Check.due("strike(0) without COINS", new SleepMint().strike(0), 8);
        Check.due("strike(1) without COINS", new SleepMint().strike(1), 409);
    }

    /** The fewest for 1 to 60 together, by the coins told and one of w. */
    private static int togetherWith(int[] told, int w) {
        int[] fewest = new int[61];
        int sum = 0;
        for (int v = 1; v <= 60; v++) {
            fewest[v] = fewest[v - 1] + 1;
            if (v >= w) fewest[v] = Math.min(fewest[v], fewest[v - w] + 1);
            for (int t : told) {
                if (v >= t) fewest[v] = Math.min(fewest[v], fewest[v - t] + 1);
            }
            sum += fewest[v];
        }
        return sum;
    }

    private static void strikeTheLeast() {
        Check.says("STRIKE: a worth of 2 to 60 (no COIN yet) by which CHANGE of 1 to 60 is fewest: the least such");
        int[][] towns = {{}, {8}, {7}, {9}, {2}, {60}, {2, 3}, {5, 12}, {9, 30}, {2, 60}, {6, 16, 20, 9}, {12, 9, 30, 45},
            {60, 59, 58, 57}, {2, 3, 4, 5}, {8, 20}, {2, 5, 10, 20}, {10, 20, 30, 40}, {4, 13, 21},
            // Of all towns the least that is ever struck is 2, the greatest 40.
            {4, 13, 23, 28}, {2, 7, 12, 15}};
        int townsWithLikeOnes = 0;
        for (int[] told : towns) {
            StringBuilder text = new StringBuilder("m1 2 1;");
            for (int t : told) text.append('c').append(t).append(';');
            int best = 0;
            int least = Integer.MAX_VALUE;
            int likeOnes = 0;
            for (int w = 2; w <= 60; w++) {
                boolean isTold = false;
                for (int t : told) isTold |= t == w;
                if (isTold) continue;
                int sum = togetherWith(told, w);
                if (sum < least) {
                    least = sum;
                    best = w;
                    likeOnes = 0;
                }
                if (sum == least) likeOnes++;
            }
            if (likeOnes > 1) townsWithLikeOnes++;
            SleepMint x = Check.town(text.toString());
            Check.due("strike(0) of " + text, x.strike(0), best);
            Check.due("strike(1) of " + text, x.strike(1), least);
            Check.due("coins(60, " + best + ") of " + text + ": it is not struck yet", x.coins(60, best), 0);
        }
        Check.due("towns with like ones were among them", townsWithLikeOnes > 0 ? 1 : 0, 1);
    }

    private static void falseIsAsked() {
        Check.says("Promise 20: p, a, b of a hundred (0 .. 100), n TESTS (0 .. 9). OUTSIDE (k 0 .. n, too).");
        SleepMint x = new SleepMint();
        int[] good = {50, 50, 50, 5, 2};
        int[] low = {0, 0, 0, 2, 0};
        int[] high = {100, 100, 100, 9, 5};
        for (int which = 0; which < 5; which++) {
            int[] values = {low[which] - 1, low[which], high[which], high[which] + 1, Integer.MIN_VALUE, Integer.MAX_VALUE};
            for (int k = 0; k < values.length; k++) {
                // Below k tests n is within its own bounds, but k is not.
                int[] a = good.clone();
                a[which] = values[k];
                int answer = x.isFalse(a[0], a[1], a[2], a[3], a[4]);
                boolean isWithin = k == 1 || k == 2;
                Check.due("isFalse with " + values[k] + " at " + which, answer == Check.OUTSIDE ? 0 : 1, isWithin ? 1 : 0);
            }
        }
        Check.due("isFalse(50, 50, 50, -1, 0)", x.isFalse(50, 50, 50, -1, 0), Check.OUTSIDE);
        Check.due("isFalse(50, 50, 50, -1, -1)", x.isFalse(50, 50, 50, -1, -1), Check.OUTSIDE);
        Check.due("isFalse(50, 50, 50, 10, 10)", x.isFalse(50, 50, 50, 10, 10), Check.OUTSIDE);
        Check.due("isFalse(50, 50, 50, 0, 1)", x.isFalse(50, 50, 50, 0, 1), Check.OUTSIDE);
        Check.due("isFalse(50, 50, 50, 9, 10)", x.isFalse(50, 50, 50, 9, 10), Check.OUTSIDE);
        Check.due("isFalse(50, 50, 50, 0, 0)", x.isFalse(50, 50, 50, 0, 0), 500000);
        Check.due("isFalse(50, 50, 50, 9, 9)", x.isFalse(50, 50, 50, 9, 9), 500000);
    }

    private static void falseAtBounds() {
        Check.says("FALSE: of a million: the first times a million / both together (cut; 0, if both are 0)");
        SleepMint x = new SleepMint();
        Check.due("isFalse(0, 50, 50, 0, 0)", x.isFalse(0, 50, 50, 0, 0), 0);
        Check.due("isFalse(1, 50, 50, 0, 0)", x.isFalse(1, 50, 50, 0, 0), 10000);
        Check.due("isFalse(100, 50, 50, 0, 0)", x.isFalse(100, 50, 50, 0, 0), 1000000);
        // Both are 0: by what TESTS cannot have said, or by what cannot be.
        Check.due("isFalse(50, 0, 0, 1, 1)", x.isFalse(50, 0, 0, 1, 1), 0);
        Check.due("isFalse(50, 100, 100, 1, 0)", x.isFalse(50, 100, 100, 1, 0), 0);
        Check.due("isFalse(0, 50, 0, 1, 1)", x.isFalse(0, 50, 0, 1, 1), 0);
        Check.due("isFalse(100, 0, 50, 1, 1)", x.isFalse(100, 0, 50, 1, 1), 0);
        Check.due("isFalse(50, 100, 0, 2, 1)", x.isFalse(50, 100, 0, 2, 1), 0);
        // By 1 of a hundred a BILLION is cut to 0 at the fifth TEST: 10000000, 100000, 1000, 10, 0.
        Check.due("isFalse(100, 1, 1, 4, 4)", x.isFalse(100, 1, 1, 4, 4), 1000000);
        Check.due("isFalse(100, 1, 1, 5, 5)", x.isFalse(100, 1, 1, 5, 5), 0);
        Check.due("isFalse(100, 99, 1, 5, 0)", x.isFalse(100, 99, 1, 5, 0), 0);
        Check.says("FALSE: for each TEST, those that said so first; likewise the other; each cut");
        // 500000000 by 99 five times is 475495024, then by 1 four times 4; by 1 first it would be cut to 0.
        Check.due("isFalse(50, 99, 1, 9, 5)", x.isFalse(50, 99, 1, 9, 5), 1000000);
        // 10000000 by 7 six times is cut to 0 ahead of the 93; by 93 first it would be 1.
        Check.due("isFalse(1, 7, 1, 7, 6)", x.isFalse(1, 7, 1, 7, 6), 0);
        Check.due("isFalse(30, 3, 4, 9, 5)", x.isFalse(30, 3, 4, 9, 5), byHand(30, 3, 4, 9, 5));
        Check.due("isFalse(99, 1, 99, 9, 3)", x.isFalse(99, 1, 99, 9, 3), byHand(99, 1, 99, 9, 3));
    }

    private static long byHand(int p, int a, int b, int n, int k) {
        long first = 10000000L * p;
        long other = 10000000L * (100 - p);
        for (int test = 0; test < k; test++) first = first * a / 100;
        for (int test = k; test < n; test++) first = first * (100 - a) / 100;
        for (int test = 0; test < k; test++) other = other * b / 100;
        for (int test = k; test < n; test++) other = other * (100 - b) / 100;
        return first + other == 0 ? 0 : first * 1000000 / (first + other);
    }

    private static void pricesAreAsked() {
        Check.says("Promise 21: x (0 .. 9999), f (0 .. 300), g (0 .. 99); what = 0 ROUNDS, 1 at what. OUTSIDE.");
        SleepMint x = new SleepMint();
        int[] high = {9999, 300, 99, 1};
        for (int which = 0; which < 4; which++) {
            for (int v : new int[] {-1, high[which] + 1, Integer.MIN_VALUE, Integer.MAX_VALUE}) {
                int[] a = {5, 100, 0, 0};
                a[which] = v;
                Check.due("prices with " + v + " at " + which, x.prices(a[0], a[1], a[2], a[3]), Check.OUTSIDE);
            }
        }
        Check.due("prices(0, 0, 0, 0)", x.prices(0, 0, 0, 0), 0);
        Check.due("prices(0, 0, 0, 1)", x.prices(0, 0, 0, 1), 0);
        Check.due("prices(9999, 0, 99, 0)", x.prices(9999, 0, 99, 0), 1);
        Check.due("prices(9999, 0, 99, 1)", x.prices(9999, 0, 99, 1), 99);
        Check.due("prices(99, 0, 99, 0)", x.prices(99, 0, 99, 0), 0);
        Check.due("prices(0, 300, 0, 0)", x.prices(0, 300, 0, 0), 0);
        Check.due("prices(9999, 300, 99, 0)", x.prices(9999, 300, 99, 0), Check.NONE);
        Check.due("prices(9999, 300, 99, 1)", x.prices(9999, 300, 99, 1), Check.NONE);
    }

    private static void pricesThatStay() {
        Check.says("PRICES: ROUNDS till it stays; at what; NONE: it runs away (above 99999)");
        SleepMint x = new SleepMint();
        Check.due("prices(9999, 100, 0, 0)", x.prices(9999, 100, 0, 0), 0);
        Check.due("prices(9999, 100, 0, 1)", x.prices(9999, 100, 0, 1), 9999);
        // By 101 of a hundred 99 is 99.99, cut to 99; 100 is 101, and on and on.
        Check.due("prices(99, 101, 0, 0)", x.prices(99, 101, 0, 0), 0);
        Check.due("prices(99, 101, 0, 1)", x.prices(99, 101, 0, 1), 99);
        Check.due("prices(100, 101, 0, 0)", x.prices(100, 101, 0, 0), Check.NONE);
        Check.due("prices(1, 199, 0, 0)", x.prices(1, 199, 0, 0), 0);
        Check.due("prices(1, 200, 0, 0)", x.prices(1, 200, 0, 0), Check.NONE);
        Check.due("prices(1, 300, 0, 1)", x.prices(1, 300, 0, 1), Check.NONE);
        // 1, 0 and 0 again: one ROUND.
        Check.due("prices(1, 99, 0, 0)", x.prices(1, 99, 0, 0), 1);
        Check.due("prices(1, 99, 0, 1)", x.prices(1, 99, 0, 1), 0);
        // 7 by a half is 3 and 1 more 4, then 3, then 2, then 2.
        Check.due("prices(7, 50, 1, 0)", x.prices(7, 50, 1, 0), 3);
        Check.due("prices(7, 50, 1, 1)", x.prices(7, 50, 1, 1), 2);
        // From below: 0, 1, 1.
        Check.due("prices(0, 50, 1, 0)", x.prices(0, 50, 1, 0), 1);
        Check.due("prices(0, 50, 1, 1)", x.prices(0, 50, 1, 1), 1);
    }

    private static int roundsOf(int start, int f, int g) {
        int price = start;
        for (int rounds = 0; rounds < 2000; rounds++) {
            int next = price * f / 100 + g;
            if (next == price) return rounds;
            price = next;
        }
        return -1;
    }

    private static void pricesByTheLastRound() {
        Check.says("PRICES: ROUNDS (0 .. 500) till it stays; NONE: not by then");
        int[] seen = new int[503];
        SleepMint x = new SleepMint();
        int calls = 0;
        for (int start = 0; start <= 9999; start++) {
            int rounds = roundsOf(start, 99, 3);
            if (rounds < 498 || rounds > 502 || seen[rounds]++ > 3) continue;
            int stays = 300;
            for (int k = 0, price = start; k < rounds; k++) stays = price = price * 99 / 100 + 3;
            boolean isByThen = rounds <= 500;
            Check.due("prices(" + start + ", 99, 3, 0)", x.prices(start, 99, 3, 0), isByThen ? rounds : Check.NONE);
            Check.due("prices(" + start + ", 99, 3, 1)", x.prices(start, 99, 3, 1), isByThen ? stays : Check.NONE);
            calls += 2;
        }
        for (int rounds = 498; rounds <= 502; rounds++) {
            Check.due("prices of " + rounds + " rounds were among them", seen[rounds] > 0 ? 1 : 0, 1);
        }
        Check.due("calls of one object are 512 at most", calls <= 512 ? 1 : 0, 1);
        // 1 more in each ROUND: never.
        Check.due("prices(0, 100, 1, 0)", x.prices(0, 100, 1, 0), Check.NONE);
        Check.due("prices(0, 100, 1, 1)", x.prices(0, 100, 1, 1), Check.NONE);
        Check.due("prices(9999, 100, 99, 0)", x.prices(9999, 100, 99, 0), Check.NONE);
    }

    private static void robbedIsAsked() {
        Check.says("Promise 22: ROBBED of v together (0 .. 999): what = 0 how many, 1 the least (NONE), 2 SURE. UNKNOWN, OUTSIDE.");
        SleepMint x = crowd(1, 5);
        for (int set : new int[] {32, 33, 63, -1, Integer.MIN_VALUE, Integer.MAX_VALUE}) {
            Check.due("robbed(" + set + ", 0, 0)", x.robbed(set, 0, 0), Check.UNKNOWN);
            Check.due("robbed(" + set + ", 1000, 3)", x.robbed(set, 1000, 3), Check.UNKNOWN);
        }
        for (int v : new int[] {-1, 1000, Integer.MIN_VALUE, Integer.MAX_VALUE}) {
            Check.due("robbed(31, " + v + ", 0)", x.robbed(31, v, 0), Check.OUTSIDE);
        }
        for (int what : new int[] {-1, 3, Integer.MIN_VALUE, Integer.MAX_VALUE}) {
            Check.due("robbed(0, 0, " + what + ")", x.robbed(0, 0, what), Check.OUTSIDE);
        }
        Check.due("robbed(31, 5, 0)", x.robbed(31, 5, 0), 1);
        Check.due("robbed(31, 999, 0)", x.robbed(31, 999, 0), 0);
        Check.due("robbed(4, 1, 0) of two", crowd(1, 2).robbed(4, 1, 0), Check.UNKNOWN);
        Check.due("robbed(3, 2, 0) of two", crowd(1, 2).robbed(3, 2, 0), 1);
        Check.due("robbed(1, 0, 0) of nobody", Check.town("m1 2 1;").robbed(1, 0, 0), Check.UNKNOWN);
        Check.due("robbed(0, 0, 0) of nobody", Check.town("m1 2 1;").robbed(0, 0, 0), 1);
        Check.due("robbed(0, 0, 2) of nobody", Check.town("m1 2 1;").robbed(0, 0, 2), 0);
        Check.due("robbed(0, 1, 0) of nobody", Check.town("m1 2 1;").robbed(0, 1, 0), 0);
    }

    private static void robbedOfSoMuch() {
        Check.says("ROBBED: SETS of PEOPLE with a told SET in them, whose YAWNS are v together; SURE (0 without)");
        SleepMint x = Check.town("m1 2 1;" + ("p0 0" + Z + ";").repeat(5) + "u0 20;u1 20;u2 20;u3 20;u4 20;");
        Check.due("robbed(0, 100, 0)", x.robbed(0, 100, 0), 1);
        Check.due("robbed(0, 100, 1)", x.robbed(0, 100, 1), 31);
        Check.due("robbed(0, 100, 2)", x.robbed(0, 100, 2), 31);
        Check.due("robbed(0, 101, 0)", x.robbed(0, 101, 0), 0);
        Check.due("robbed(0, 101, 1)", x.robbed(0, 101, 1), Check.NONE);
        Check.due("robbed(0, 101, 2)", x.robbed(0, 101, 2), 0);
        Check.due("robbed(0, 99, 0)", x.robbed(0, 99, 0), 0);
        Check.due("robbed(0, 0, 0)", x.robbed(0, 0, 0), 1);
        Check.due("robbed(0, 0, 1)", x.robbed(0, 0, 1), 0);
        Check.due("robbed(0, 0, 2)", x.robbed(0, 0, 2), 0);
        Check.due("robbed(1, 0, 0)", x.robbed(1, 0, 0), 0);
        Check.due("robbed(0, 40, 0)", x.robbed(0, 40, 0), 10);
        Check.due("robbed(0, 40, 1)", x.robbed(0, 40, 1), 3);
        Check.due("robbed(0, 40, 2)", x.robbed(0, 40, 2), 0);
        Check.due("robbed(16, 40, 0)", x.robbed(16, 40, 0), 4);
        Check.due("robbed(16, 40, 1)", x.robbed(16, 40, 1), 17);
        Check.due("robbed(16, 40, 2)", x.robbed(16, 40, 2), 16);
        Check.due("robbed(24, 40, 2)", x.robbed(24, 40, 2), 24);
        Check.due("robbed(28, 40, 0)", x.robbed(28, 40, 0), 0);
    }

    private static void aRunIsAsked() {
        Check.says("Promise 23: a bank that has r (0 .. 999): what = 0 who took out, 1 who was not paid in full. OUTSIDE.");
        SleepMint x = Check.town("m1 2 1;p0 1" + Z + ";");
        for (int r : new int[] {-1, 1000, Integer.MIN_VALUE, Integer.MAX_VALUE}) {
            Check.due("run(" + r + ", 0)", x.run(r, 0), Check.OUTSIDE);
            Check.due("run(" + r + ", 1)", x.run(r, 1), Check.OUTSIDE);
        }
        for (int what : NOT_0_OR_1) Check.due("run(0, " + what + ")", x.run(0, what), Check.OUTSIDE);
        Check.due("run(0, 0)", x.run(0, 0), 1);
        Check.due("run(0, 1)", x.run(0, 1), 1);
        Check.due("run(1, 1)", x.run(1, 1), 0);
        Check.due("run(999, 0)", x.run(999, 0), 1);
        Check.due("run(999, 1)", x.run(999, 1), 0);
        Check.due("run(999, 0) of nobody", Check.town("m1 2 1;").run(999, 0), 0);
        Check.due("run(0, 1) of nobody", new SleepMint().run(0, 1), 0);
    }

    private static SleepMint runners(int... tired) {
        StringBuilder text = new StringBuilder("m1 2 1;");
        for (int t : tired) text.append('p').append(t).append(" 10").append(Z).append(';');
        return Check.town(text.toString());
    }

    private static void aRunByTiredness() {
        Check.says("takes it out when at least TIRED / 10 others did, one by one, of those who will the least first");
        Check.due("run(0, 0) of 9", runners(9).run(0, 0), 1);
        Check.due("run(0, 0) of 10", runners(10).run(0, 0), 0);
        Check.due("run(0, 0) of 10, 0", runners(10, 0).run(0, 0), 3);
        Check.due("run(0, 0) of 19, 9", runners(19, 9).run(0, 0), 3);
        Check.due("run(0, 0) of 20, 9", runners(20, 9).run(0, 0), 2);
        Check.due("run(0, 0) of 10, 10", runners(10, 10).run(0, 0), 0);
        Check.due("run(0, 0) of 49, 39, 29, 19, 9", runners(49, 39, 29, 19, 9).run(0, 0), 31);
        Check.due("run(0, 0) of 50, 39, 29, 19, 9", runners(50, 39, 29, 19, 9).run(0, 0), 30);
        Check.due("run(0, 0) of 60, 0, 0, 0, 0", runners(60, 0, 0, 0, 0).run(0, 0), 30);
        Check.due("run(0, 0) of 40, 40, 20, 10, 0", runners(40, 40, 20, 10, 0).run(0, 0), 28);
        // Of 20 for five at 10 each the first two are paid: by number, or by who is less tired.
        Check.due("run(20, 1) of 0, 10, 20, 30, 40", runners(0, 10, 20, 30, 40).run(20, 1), 28);
        Check.due("run(20, 1) of 40, 30, 20, 10, 0", runners(40, 30, 20, 10, 0).run(20, 1), 7);
        // 1 goes first; then 0 will too, and is ahead of 2.
        Check.due("run(20, 1) of 10, 0, 0", runners(10, 0, 0).run(20, 1), 4);
        // At 99 nine others are asked for, and there are four.
        SleepMint x = Check.town("m1 2 1;" + "p60 1wwwwwwwwwwwwwwwwwwwwwwww;".repeat(5));
        x.hour(20);
        Check.due("run(999, 0) of 99 all", x.run(999, 0), 0);
    }

    private static void aRunOnTooLittle() {
        Check.says("he is paid PURSE, or what is left there: who was not paid in full (a SET)");
        SleepMint x = runners(0, 0, 0);
        int[] from = {0, 9, 10, 11, 19, 20, 29, 30, 31};
        int[] unpaid = {7, 7, 6, 6, 6, 4, 4, 0, 0};
        for (int k = 0; k < from.length; k++) {
            Check.due("run(" + from[k] + ", 1)", x.run(from[k], 1), unpaid[k]);
            Check.due("run(" + from[k] + ", 0)", x.run(from[k], 0), 7);
        }
        // Who is paid what is left leaves nothing; who has nothing there is paid in full, and counts as one who did.
        SleepMint y = Check.town("m1 2 1;p0 50" + Z + ";p0 1" + Z + ";p0 0" + Z + ";p30 0" + Z + ";");
        Check.due("run(49, 1)", y.run(49, 1), 3);
        Check.due("run(50, 1)", y.run(50, 1), 2);
        Check.due("run(51, 1)", y.run(51, 1), 0);
        Check.due("run(0, 0)", y.run(0, 0), 15);
        Check.due("run(0, 1)", y.run(0, 1), 3);
    }

    private static void nothingChanges() {
        Check.says("3 TRIED; nothing changes by it.");
        String text = "m1 2 9;p30 9" + Z + ";p20 9" + Z + ";c5;d0 2 9;d1 9 99;u1 3;";
        SleepMint x = Check.town(text);
        SleepMint same = Check.town(text);
        for (SleepMint each : new SleepMint[] {x, same}) {
            each.seed(7);
            each.drift(3);
            each.write(0, 2);
            each.keep(0);
            each.drift(1);
        }
        for (int what = 0; what < 2; what++) {
            x.firstShort(what);
            x.richest(200, what);
            x.life(what, 48, -1);
            x.life(what, 20, 3);
            x.shift(12, what);
            x.coins(200, 5);
            x.strike(what);
            x.isFalse(50, 50, 50, 9, 9);
            x.prices(9999, 99, 3, what);
            x.robbed(what, 3, 2);
            x.run(5, what);
        }
        new Look(x).isDue("all that is tried", new Look(same));
        x.drift(30);
        same.drift(30);
        new Look(x).isDue("all that is tried, 30 hours later", new Look(same));
        x.goBack(0);
        same.goBack(0);
        new Look(x).isDue("all that is tried, back again", new Look(same));
        Check.due("seed(0)", x.seed(0), same.seed(0));
    }
}
