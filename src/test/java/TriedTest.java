/** Promises 14, 15 and 17 to 23: what is tried, but for lives, which LifeTest looks at. */
public final class TriedTest {
    private static final String Z = Check.SLEEPS_ALL_DAY;
    private static final String R = Check.RESTS_ALL_DAY;

    public static void main(String[] args) {
        fallingShort();
        whoIsRichest();
        nothingChangesByTrying();
        lyingInShifts();
        payingInCoins();
        coinsOfLikeNumber();
        strikingACoin();
        testingACoin();
        pricesByRounds();
        whoWasRobbed();
        aRunOnABank();
        Check.end();
    }

    private static void fallingShort() {
        SleepMint x = Check.town("m1 2 1;p0 9 " + R + ";p0 5 " + R + ";d0 71 1;d1 6 6;d1 4 6;d0 4 10;d0 2 9;");
        Check.due("firstShort(0)", x.firstShort(0), 2);
        Check.due("firstShort(1)", x.firstShort(1), 4);
        Check.due("firstShort(2)", x.firstShort(2), Check.OUTSIDE);
        Check.due("firstShort(-1)", x.firstShort(-1), Check.OUTSIDE);
        x.hour(5);
        // What fell short already does not fall short again; the hour is counted from 0, not from now.
        Check.due("firstShort(0)", x.firstShort(0), 1);
        Check.due("firstShort(1)", x.firstShort(1), 6);
        x.hour(2);
        Check.due("firstShort(0)", x.firstShort(0), 0);
        Check.due("firstShort(1)", x.firstShort(1), 71);
        x.give(1, 0, 1);
        Check.due("firstShort(0)", x.firstShort(0), Check.NONE);
        Check.due("firstShort(1)", x.firstShort(1), Check.NONE);
        Check.due("firstShort(0) of nothing", new SleepMint().firstShort(0), Check.NONE);
        SleepMint likes = Check.town("m1 2 1;p0 0 " + R + ";p0 0 " + R + ";d1 3 1;d0 3 1;");
        Check.due("firstShort(0)", likes.firstShort(0), 0);
    }

    private static void whoIsRichest() {
        SleepMint x = Check.town("m1 2 2;p0 3 " + R + ";p9 0 " + Z + ";p0 3 " + R + ";d0 1 3;");
        Check.due("richest(0, 0)", x.richest(0, 0), 0);
        Check.due("richest(0, 1)", x.richest(0, 1), 3);
        Check.due("richest(2, 0)", x.richest(2, 0), 1);
        Check.due("richest(2, 1)", x.richest(2, 1), 3);
        Check.due("richest(3, 1)", x.richest(3, 1), 5);
        // 9 is slept off in three hours; from then on every other hour is slept, and worth 1.
        Check.due("richest(200, 1)", x.richest(200, 1), 5 + 98);
        Check.due("richest(201, 0)", x.richest(201, 0), Check.OUTSIDE);
        Check.due("richest(-1, 0)", x.richest(-1, 0), Check.OUTSIDE);
        Check.due("richest(0, 2)", x.richest(0, 2), Check.OUTSIDE);
        Check.due("richest(0, -1)", x.richest(0, -1), Check.OUTSIDE);
        Check.due("richest(9, 0) of nobody", Check.town("m1 2 1;").richest(9, 0), Check.NONE);
        Check.due("richest(9, 1) of nobody", new SleepMint().richest(9, 1), Check.NONE);
        Check.due("richest(201, 1) of nobody", new SleepMint().richest(201, 1), Check.OUTSIDE);
    }

    private static void nothingChangesByTrying() {
        SleepMint x = Check.town("m1 3 4;p30 2 " + Z + ";p10 5 " + R + ";c5;d0 4 90;d1 9 6;");
        x.hour(3);
        x.seed(5);
        x.firstShort(0);
        x.richest(100, 0);
        x.life(0, 48, -1);
        x.shift(3, 0);
        x.strike(0);
        x.run(9, 0);
        int[] want = {1, 3, 4, 2, 1, 2, 0, 3, 0, 0, 1, 0};
        for (int what = 0; what < 12; what++) Check.due("told(" + what + ")", x.told(what), want[what]);
        int[] him = {18, 8, 3, 1};
        for (int what = 0; what < 4; what++) Check.due("person(0, " + what + ")", x.person(0, what), him[what]);
        Check.due("seed(0)", x.seed(0), 5);
    }

    private static String crowd(int beds, int people) {
        StringBuilder s = new StringBuilder("m" + beds + " 2 1;");
        for (int p = 0; p < people; p++) s.append("p0 0 ").append(Z).append(';');
        return s.toString();
    }

    private static void lyingInShifts() {
        SleepMint x = Check.town(crowd(2, 5));
        int[] want = {0, 0, 8, 8, 16};
        for (int p = 0; p < 5; p++) Check.due("shift(8, " + p + ")", x.shift(8, p), want[p]);
        // Three rounds of 9 are longer than a day: then nobody has a shift.
        for (int p = 0; p < 5; p++) Check.due("shift(9, " + p + ")", x.shift(9, p), Check.NONE);
        Check.due("shift(1, 4)", x.shift(1, 4), 2);
        Check.due("shift(0, 0)", x.shift(0, 0), Check.OUTSIDE);
        Check.due("shift(13, 0)", x.shift(13, 0), Check.OUTSIDE);
        Check.due("shift(13, 5)", x.shift(13, 5), Check.UNKNOWN);
        Check.due("shift(1, -1)", x.shift(1, -1), Check.UNKNOWN);
        Check.due("shift(1, 0) of nothing", new SleepMint().shift(1, 0), Check.UNKNOWN);
        Check.due("shift(12, 1) in one bed", Check.town(crowd(1, 2)).shift(12, 1), 12);
        Check.due("shift(12, 0) in one bed", Check.town(crowd(1, 3)).shift(12, 0), Check.NONE);
        Check.due("shift(12, 4) in five beds", Check.town(crowd(5, 5)).shift(12, 4), 0);
        Check.due("shift(4, 4) in one bed", Check.town(crowd(1, 5)).shift(4, 4), 16);
        Check.due("shift(5, 4) in one bed", Check.town(crowd(1, 5)).shift(5, 4), Check.NONE);
    }

    private static void payingInCoins() {
        SleepMint x = Check.town("m1 2 1;c7;c20;");
        Check.due("coins(0, -1)", x.coins(0, -1), 0);
        Check.due("coins(200, -1)", x.coins(200, -1), 10);
        Check.due("coins(200, 20)", x.coins(200, 20), 10);
        // 21 is 20 and 1: two coins are fewer than three of 7.
        Check.due("coins(21, -1)", x.coins(21, -1), 2);
        Check.due("coins(21, 20)", x.coins(21, 20), 1);
        Check.due("coins(21, 1)", x.coins(21, 1), 1);
        // 28 is 20, 7 and 1: three coins are fewer than four of 7.
        Check.due("coins(28, -1)", x.coins(28, -1), 3);
        Check.due("coins(28, 7)", x.coins(28, 7), 1);
        Check.due("coins(28, 2)", x.coins(28, 2), 0);
        // 35 is 20, two of 7 and 1: four coins are fewer than five of 7.
        Check.due("coins(35, 7)", x.coins(35, 7), 2);
        // 24: 20 and four of 1 are five; three of 7 and three of 1 are six.
        Check.due("coins(24, 1)", x.coins(24, 1), 4);
        Check.due("coins(201, -1)", x.coins(201, -1), Check.OUTSIDE);
        Check.due("coins(-1, -1)", x.coins(-1, -1), Check.OUTSIDE);
        Check.due("coins(5, 0)", x.coins(5, 0), Check.OUTSIDE);
        Check.due("coins(5, -2)", x.coins(5, -2), Check.OUTSIDE);
        Check.due("coins(5, 61)", x.coins(5, 61), Check.OUTSIDE);
        Check.due("coins(5, 60)", x.coins(5, 60), 0);
        Check.tell(x, "m1 2 1;c60;");
        Check.due("coins(60, 60)", x.coins(60, 60), 1);
        Check.tell(x, "m1 2 1;c9;");
        Check.due("coins(60, 60) of other coins", x.coins(60, 60), 0);
        Check.due("coins(20, 20) of other coins", x.coins(20, 20), 0);
        Check.due("coins(20, 9) of other coins", x.coins(20, 9), 2);
        x.capital();
        Check.due("coins(20, -1) without coins", x.coins(20, -1), 20);
    }

    private static void coinsOfLikeNumber() {
        // 12 is 10 and two of 1, or three of 4: most of the greatest comes first.
        SleepMint x = Check.town("m1 2 1;c4;c10;");
        Check.due("coins(12, -1)", x.coins(12, -1), 3);
        Check.due("coins(12, 10)", x.coins(12, 10), 1);
        Check.due("coins(12, 4)", x.coins(12, 4), 0);
        Check.due("coins(12, 1)", x.coins(12, 1), 2);
        // 15 is three of 5, as 12 and three of 1 are four.
        SleepMint y = Check.town("m1 2 1;c12;c5;");
        Check.due("coins(15, 5)", y.coins(15, 5), 3);
        Check.due("coins(15, 12)", y.coins(15, 12), 0);
    }

    private static void strikingACoin() {
        SleepMint x = new SleepMint();
        Check.due("strike(0)", x.strike(0), 8);
        Check.due("strike(1)", x.strike(1), 409);
        Check.due("strike(2)", x.strike(2), Check.OUTSIDE);
        Check.due("strike(-1)", x.strike(-1), Check.OUTSIDE);
        Check.tell(x, "m1 2 1;c12;c9;c30;c45;");
        Check.due("strike(0)", x.strike(0), 2);
        Check.due("strike(1)", x.strike(1), 161);
        // With 8 told another one must be struck.
        PlainModel m = new PlainModel();
        String[] texts = {"m1 2 1;c8;", "m1 2 1;c2;c3;", "m1 2 1;c6;c16;c20;c9;", "m1 2 1;c60;c59;c58;c57;"};
        for (String text : texts) {
            Check.tell(x, text);
            for (int i = 0; i < text.length(); i++) m.feed(text.charAt(i));
            m.capital();
            Check.due("strike(0) of " + text, x.strike(0), m.strike(0));
            Check.due("strike(1) of " + text, x.strike(1), m.strike(1));
        }
    }

    private static void testingACoin() {
        SleepMint x = new SleepMint();
        Check.due("isFalse(37, 5, 5, 0, 0)", x.isFalse(37, 5, 5, 0, 0), 370000);
        Check.due("isFalse(10, 90, 5, 1, 1)", x.isFalse(10, 90, 5, 1, 1), 666666);
        Check.due("isFalse(10, 90, 5, 1, 0)", x.isFalse(10, 90, 5, 1, 0), 11560);
        Check.due("isFalse(50, 90, 10, 2, 2)", x.isFalse(50, 90, 10, 2, 2), 987804);
        Check.due("isFalse(100, 0, 0, 1, 1)", x.isFalse(100, 0, 0, 1, 1), 0);
        Check.due("isFalse(100, 100, 0, 9, 9)", x.isFalse(100, 100, 0, 9, 9), 1000000);
        Check.due("isFalse(0, 100, 100, 9, 9)", x.isFalse(0, 100, 100, 9, 9), 0);
        // 300000000 * 0.5^9 is 585937.5, 700000000 * 0.5^9 is 1367187.5; cut on the way: 585937 of 1953124.
        Check.due("isFalse(30, 50, 50, 9, 4)", x.isFalse(30, 50, 50, 9, 4), 299999);
        // 500000000 by 0.01 three times is 500, by 0.99 twice is 495, then 490; by 0.02 it is 4000, by 0.98 3920, 3841.
        Check.due("isFalse(50, 1, 2, 5, 3)", x.isFalse(50, 1, 2, 5, 3), 490L * 1000000 / (490 + 3841));
        int[][] outside = {{-1, 0, 0, 0, 0}, {101, 0, 0, 0, 0}, {0, -1, 0, 0, 0}, {0, 101, 0, 0, 0}, {0, 0, -1, 0, 0},
            {0, 0, 101, 0, 0}, {0, 0, 0, -1, 0}, {0, 0, 0, 10, 0}, {0, 0, 0, 3, 4}, {0, 0, 0, 3, -1}};
        for (int[] o : outside) {
            Check.due("isFalse out of bounds", x.isFalse(o[0], o[1], o[2], o[3], o[4]), Check.OUTSIDE);
        }
    }

    private static void pricesByRounds() {
        SleepMint x = new SleepMint();
        Check.due("prices(100, 50, 10, 0)", x.prices(100, 50, 10, 0), 7);
        Check.due("prices(100, 50, 10, 1)", x.prices(100, 50, 10, 1), 20);
        Check.due("prices(9999, 100, 0, 0)", x.prices(9999, 100, 0, 0), 0);
        Check.due("prices(9999, 100, 0, 1)", x.prices(9999, 100, 0, 1), 9999);
        Check.due("prices(0, 300, 0, 1)", x.prices(0, 300, 0, 1), 0);
        Check.due("prices(9999, 300, 99, 0)", x.prices(9999, 300, 99, 0), Check.NONE);
        Check.due("prices(9999, 300, 99, 1)", x.prices(9999, 300, 99, 1), Check.NONE);
        // By 1 a round it never stays: not by 500 rounds.
        Check.due("prices(0, 100, 1, 0)", x.prices(0, 100, 1, 0), Check.NONE);
        // Of 99 of a hundred each price loses 1 at least, and 0 stays.
        Check.due("prices(100, 99, 0, 0)", x.prices(100, 99, 0, 0), 100);
        Check.due("prices(100, 99, 0, 1)", x.prices(100, 99, 0, 1), 0);
        roundsAtTheirBound();
        int[][] outside = {{-1, 0, 0, 0}, {10000, 0, 0, 0}, {0, -1, 0, 0}, {0, 301, 0, 0}, {0, 0, -1, 0}, {0, 0, 100, 0},
            {0, 0, 0, 2}, {0, 0, 0, -1}};
        for (int[] o : outside) Check.due("prices out of bounds", x.prices(o[0], o[1], o[2], o[3]), Check.OUTSIDE);
    }

    /** Prices that stay just by the 500th round, and such as would a round later. */
    private static void roundsAtTheirBound() {
        boolean atBound = false;
        boolean pastBound = false;
        SleepMint x = new SleepMint();
        for (int start = 0; start <= 9999; start++) {
            // An object is used for 512 calls at most.
            if (start % 500 == 0) x = new SleepMint();
            int price = start;
            int rounds = 0;
            while (price * 99 / 100 + 3 != price) {
                price = price * 99 / 100 + 3;
                rounds++;
            }
            Check.due("prices(" + start + ", 99, 3, 0)", x.prices(start, 99, 3, 0), rounds <= 500 ? rounds : Check.NONE);
            atBound |= rounds == 500;
            pastBound |= rounds == 501;
        }
        Check.due("a price that stays by the 500th round", atBound ? 1 : 0, 1);
        Check.due("a price that stays by the 501st round", pastBound ? 1 : 0, 1);
    }

    private static void whoWasRobbed() {
        String people = "m1 2 1;p0 0 " + Z + ";p0 0 " + Z + ";p0 0 " + Z + ";p0 0 " + Z + ";";
        // Yawns of 3, 2, 1 and 1.
        SleepMint x = Check.town(people + "u0 3;u1 2;");
        // 4: {0, 2}, {0, 3}, {1, 2, 3}.
        Check.due("robbed(0, 4, 0)", x.robbed(0, 4, 0), 3);
        Check.due("robbed(0, 4, 1)", x.robbed(0, 4, 1), 5);
        Check.due("robbed(0, 4, 2)", x.robbed(0, 4, 2), 0);
        Check.due("robbed(1, 4, 0)", x.robbed(1, 4, 0), 2);
        Check.due("robbed(1, 4, 2)", x.robbed(1, 4, 2), 1);
        Check.due("robbed(2, 4, 0)", x.robbed(2, 4, 0), 1);
        Check.due("robbed(2, 4, 1)", x.robbed(2, 4, 1), 14);
        Check.due("robbed(2, 4, 2)", x.robbed(2, 4, 2), 14);
        Check.due("robbed(3, 4, 0)", x.robbed(3, 4, 0), 0);
        Check.due("robbed(3, 4, 1)", x.robbed(3, 4, 1), Check.NONE);
        Check.due("robbed(3, 4, 2)", x.robbed(3, 4, 2), 0);
        Check.due("robbed(15, 7, 1)", x.robbed(15, 7, 1), 15);
        Check.due("robbed(0, 0, 0)", x.robbed(0, 0, 0), 1);
        Check.due("robbed(0, 0, 1)", x.robbed(0, 0, 1), 0);
        Check.due("robbed(0, 999, 0)", x.robbed(0, 999, 0), 0);
        Check.due("robbed(16, 1000, 3)", x.robbed(16, 1000, 3), Check.UNKNOWN);
        Check.due("robbed(-1, 0, 0)", x.robbed(-1, 0, 0), Check.UNKNOWN);
        Check.due("robbed(0, 1000, 0)", x.robbed(0, 1000, 0), Check.OUTSIDE);
        Check.due("robbed(0, -1, 0)", x.robbed(0, -1, 0), Check.OUTSIDE);
        Check.due("robbed(0, 0, 3)", x.robbed(0, 0, 3), Check.OUTSIDE);
        Check.due("robbed(0, 0, -1)", x.robbed(0, 0, -1), Check.OUTSIDE);
        Check.due("robbed(1, 0, 0) of nobody", new SleepMint().robbed(1, 0, 0), Check.UNKNOWN);
    }

    private static void aRunOnABank() {
        // 0 goes behind two others, 1 at once, 2 behind one, 3 behind five, that is never.
        SleepMint x = Check.town("m1 2 1;p29 10 " + Z + ";p9 20 " + Z + ";p10 30 " + Z + ";p50 40 " + Z + ";");
        Check.due("run(999, 0)", x.run(999, 0), 7);
        Check.due("run(999, 1)", x.run(999, 1), 0);
        Check.due("run(60, 1)", x.run(60, 1), 0);
        Check.due("run(59, 1)", x.run(59, 1), 1);
        Check.due("run(50, 1)", x.run(50, 1), 1);
        Check.due("run(49, 1)", x.run(49, 1), 5);
        Check.due("run(20, 1)", x.run(20, 1), 5);
        Check.due("run(19, 1)", x.run(19, 1), 7);
        Check.due("run(0, 0)", x.run(0, 0), 7);
        Check.due("run(1000, 0)", x.run(1000, 0), Check.OUTSIDE);
        Check.due("run(-1, 0)", x.run(-1, 0), Check.OUTSIDE);
        Check.due("run(0, 2)", x.run(0, 2), Check.OUTSIDE);
        Check.due("run(0, -1)", x.run(0, -1), Check.OUTSIDE);
        // 1 goes first; then 0 will too, and goes ahead of 2. Who has nothing is paid in full.
        SleepMint y = Check.town("m1 2 1;p19 10 " + Z + ";p0 20 " + Z + ";p0 30 " + Z + ";p0 0 " + Z + ";");
        Check.due("run(30, 0)", y.run(30, 0), 15);
        Check.due("run(30, 1)", y.run(30, 1), 4);
        Check.due("run(0, 1)", y.run(0, 1), 7);
        Check.due("run(5, 0) of nobody", new SleepMint().run(5, 0), 0);
    }
}
