/** Promises 24 to 29, sentence by sentence: what stands at a bound, just below it and just above it. */
public final class BookBoundsTest {
    private static final String Z = Check.SLEEPS_ALL_DAY;
    private static final String R = Check.RESTS_ALL_DAY;

    public static void main(String[] args) {
        anEntryIsWritten();
        theBookIsFull();
        theBookIsTorn();
        wrongAtTheFirst();
        wrongAtAnyEntry();
        wrongAtBounds();
        theSeedIsSet();
        theSeedOutlivesCapitals();
        soManyImages();
        anImageThatWasNotKept();
        imagesAreGone();
        anImageKeepsEachThing();
        whatAnImageDoesNotKeep();
        anImageIsKeptAgain();
        goingBackTwice();
        Check.end();
    }

    private static void anEntryIsWritten() {
        Check.says("Promise 24: An entry behind THE BOOK (0 .. 9999): how many. UNKNOWN, OUTSIDE");
        SleepMint x = Check.town("m1 2 1;p0 0" + R + ";p0 0" + R + ";");
        for (int p : new int[] {-1, 2, Integer.MIN_VALUE, Integer.MAX_VALUE}) {
            Check.due("write(" + p + ", 0)", x.write(p, 0), Check.UNKNOWN);
            Check.due("write(" + p + ", 10000)", x.write(p, 10000), Check.UNKNOWN);
        }
        for (int v : new int[] {-1, 10000, Integer.MIN_VALUE, Integer.MAX_VALUE}) {
            Check.due("write(0, " + v + ")", x.write(0, v), Check.OUTSIDE);
        }
        Check.due("told(11)", x.told(11), 0);
        Check.due("write(0, 0)", x.write(0, 0), 1);
        Check.due("write(1, 9999)", x.write(1, 9999), 2);
        Check.due("told(11)", x.told(11), 2);
        Check.due("write(0, 0) of nobody", Check.town("m1 2 1;").write(0, 0), Check.UNKNOWN);
        Check.due("write(0, 0) without BEDS", new SleepMint().write(0, 0), Check.UNKNOWN);
    }

    private static void theBookIsFull() {
        Check.says("Promise 24: UNKNOWN, OUTSIDE, FULL (15); THE BOOK (15 at most)");
        SleepMint x = Check.town("m1 2 1;p0 7" + R + ";");
        for (int k = 1; k <= 14; k++) Check.due("write(0, 7)", x.write(0, 7), k);
        Check.due("write(0, 7), the 15th", x.write(0, 7), 15);
        Check.due("write(0, 8), the 16th", x.write(0, 8), Check.FULL);
        Check.due("write(0, 10000), the 16th", x.write(0, 10000), Check.OUTSIDE);
        Check.due("write(0, -1), the 16th", x.write(0, -1), Check.OUTSIDE);
        Check.due("write(1, 7), the 16th", x.write(1, 7), Check.UNKNOWN);
        Check.due("told(11)", x.told(11), 15);
        // Had the 16th come into the book, it would be wrong.
        Check.due("judge()", x.judge(), Check.NONE);
        Check.due("tear()", x.tear(), 15);
        Check.due("write(0, 7)", x.write(0, 7), 1);
    }

    private static void theBookIsTorn() {
        Check.says("Promise 25: THE BOOK is empty: how many entries it had.");
        SleepMint x = Check.town("m1 2 1;p0 7" + R + ";");
        Check.due("tear()", x.tear(), 0);
        x.write(0, 8);
        Check.due("tear()", x.tear(), 1);
        Check.due("told(11)", x.told(11), 0);
        Check.due("judge()", x.judge(), Check.NONE);
        Check.due("tear()", x.tear(), 0);
        Check.due("tear() of nobody", new SleepMint().tear(), 0);
    }

    private static void wrongAtTheFirst() {
        Check.says("Promise 26: WRONG: the first that is otherwise now; NONE.");
        SleepMint x = Check.town("m1 9 1;p9 7" + Z + ";p0 5" + R + ";");
        Check.due("judge() of an empty book", x.judge(), Check.NONE);
        x.write(0, 7);
        x.write(1, 5);
        x.write(0, 8);
        x.write(1, 4);
        Check.due("judge()", x.judge(), 2);
        // What is so now counts, not what was so when it was written.
        x.hour(1);
        Check.due("judge()", x.judge(), 0);
        x.give(0, 1, 1);
        Check.due("judge()", x.judge(), 1);
        Check.due("judge() of nobody", new SleepMint().judge(), Check.NONE);
    }

    private static void wrongAtAnyEntry() {
        Check.says("THE BOOK tells PURSES: WRONG: the first that is otherwise now");
        for (int wrong = 0; wrong < 15; wrong++) {
            SleepMint x = Check.town("m1 2 1;p0 7" + R + ";");
            for (int e = 0; e < 15; e++) x.write(0, e == wrong || e == 14 ? 6 : 7);
            Check.due("judge()", x.judge(), wrong);
        }
    }

    private static void wrongAtBounds() {
        Check.says("An entry (0 .. 9999)");
        String row = "zzzzzzzzzzwwwwwwwwwwwwww";
        SleepMint x = Check.town("m5 2 9;p60 99" + row + ";p0 0" + R + ";");
        for (int k = 0; k < 40; k++) x.hour(96);
        x.write(0, 9999);
        x.write(1, 0);
        Check.due("judge()", x.judge(), Check.NONE);
        x.give(0, 1, 1);
        Check.due("judge()", x.judge(), 0);
    }

    private static void theSeedIsSet() {
        Check.says("Promise 27: THE SEED becomes v (0 .. 2147483647): what it was. OUTSIDE.");
        SleepMint x = new SleepMint();
        Check.due("seed(0)", x.seed(0), 0);
        Check.due("seed(-1)", x.seed(-1), Check.OUTSIDE);
        Check.due("seed(-2147483648)", x.seed(Integer.MIN_VALUE), Check.OUTSIDE);
        Check.due("seed(1)", x.seed(1), 0);
        Check.due("seed(-1)", x.seed(-1), Check.OUTSIDE);
        Check.due("seed(2147483647)", x.seed(Integer.MAX_VALUE), 1);
        Check.due("seed(2147483646)", x.seed(2147483646), Integer.MAX_VALUE);
        Check.due("seed(0)", x.seed(0), 2147483646);
        Check.due("seed(0)", x.seed(0), 0);
    }

    private static void theSeedOutlivesCapitals() {
        Check.says("Promise 3: THE SEED stays");
        SleepMint x = new SleepMint();
        x.seed(77);
        Check.tell(x, "m1 2 1;");
        Check.due("seed(78)", x.seed(78), 77);
        Check.tell(x, "m1");
        Check.due("seed(79) with a fault", x.seed(79), 78);
        x.capital();
        Check.due("seed(80) of an empty text", x.seed(80), 79);
    }

    private static void soManyImages() {
        Check.says("Promises 28, 29: IMAGES 0, 1. UNKNOWN");
        SleepMint x = Check.town("m1 2 1;p9 0" + Z + ";");
        for (int i : new int[] {-1, 2, 3, Integer.MIN_VALUE, Integer.MAX_VALUE}) {
            Check.due("keep(" + i + ")", x.keep(i), Check.UNKNOWN);
            Check.due("goBack(" + i + ")", x.goBack(i), Check.UNKNOWN);
        }
        // 32 and 33 must not be taken for 0 and 1 by a shift that wraps around.
        x.keep(0);
        x.keep(1);
        for (int i : new int[] {32, 33, -32, -31}) {
            Check.due("keep(" + i + ")", x.keep(i), Check.UNKNOWN);
            Check.due("goBack(" + i + ")", x.goBack(i), Check.UNKNOWN);
        }
        Check.due("goBack(0)", x.goBack(0), 1);
        Check.due("goBack(1)", x.goBack(1), 1);
    }

    private static void anImageThatWasNotKept() {
        Check.says("Promise 29: UNKNOWN, NOT: it was not kept.");
        SleepMint x = Check.town("m1 2 1;p9 0" + Z + ";");
        Check.due("goBack(0)", x.goBack(0), Check.NOT);
        Check.due("goBack(1)", x.goBack(1), Check.NOT);
        Check.due("keep(1)", x.keep(1), 1);
        Check.due("goBack(0)", x.goBack(0), Check.NOT);
        Check.due("goBack(1)", x.goBack(1), 1);
        SleepMint y = Check.town("m1 2 1;");
        Check.due("keep(0)", y.keep(0), 1);
        Check.due("goBack(1)", y.goBack(1), Check.NOT);
        Check.due("goBack(0)", y.goBack(0), 1);
        Check.due("goBack(2)", y.goBack(2), Check.UNKNOWN);
    }

    private static void imagesAreGone() {
        Check.says("Promise 3: IMAGES are gone");
        String text = "m1 2 1;p9 0" + Z + ";";
        SleepMint x = Check.town(text);
        x.keep(0);
        x.keep(1);
        Check.tell(x, "m9");
        Check.due("goBack(0) behind a fault", x.goBack(0), 1);
        Check.due("goBack(1) behind a fault", x.goBack(1), 1);
        Check.tell(x, text);
        Check.due("goBack(0) in a new capital", x.goBack(0), Check.NOT);
        Check.due("goBack(1) in a new capital", x.goBack(1), Check.NOT);
        x.keep(0);
        x.capital();
        Check.due("goBack(0) behind an empty text", x.goBack(0), Check.NOT);
        // Without BEDS an image can be kept, too; it holds THE SEED.
        x.seed(5);
        Check.due("keep(1) without BEDS", x.keep(1), 1);
        x.seed(6);
        Check.due("goBack(1) without BEDS", x.goBack(1), 1);
        Check.due("seed(0)", x.seed(0), 5);
    }

    private static void anImageKeepsEachThing() {
        Check.says("IMAGES 0, 1 keep TIRED, SLEEP, PURSES, ROWS, what was PAID, SHORT, HOURS, THE SEED.");
        for (int i = 0; i < 2; i++) {
            SleepMint x = Check.town("m1 2 9;p40 5" + Z + ";p9 7" + R + ";d0 2 1;d1 3 99;d0 9 1;d1 9 99;");
            x.hour(5);
            x.change(1, 23, 1);
            x.seed(99);
            Look kept = new Look(x);
            Check.due("keep(" + i + ")", x.keep(i), 1);
            new Look(x).isDue("keep(" + i + ")", kept);
            x.change(1, 23, 2);
            x.change(0, 0, 2);
            x.give(1, 0, 7);
            x.drift(10);
            Check.due("goBack(" + i + ")", x.goBack(i), 1);
            new Look(x).isDue("goBack(" + i + ")", kept);
            Check.due("seed(0)", x.seed(0), 99);
        }
    }

    private static void whatAnImageDoesNotKeep() {
        Check.says("IMAGES keep neither THE BOOK nor THE TEXT nor the FAULT");
        SleepMint x = Check.town("m1 2 9;p40 5" + Z + ";");
        x.write(0, 5);
        x.keep(0);
        x.write(0, 6);
        x.hour(1);
        Check.tell(x, "m9");
        x.feed('m');
        x.feed('1');
        Check.due("goBack(0)", x.goBack(0), 1);
        Check.due("told(11)", x.told(11), 2);
        Check.due("judge()", x.judge(), 1);
        Check.due("told(6)", x.told(6), 2);
        Check.due("fault()", x.fault(), 1);
        x.tear();
        Check.due("goBack(0)", x.goBack(0), 1);
        Check.due("told(11)", x.told(11), 0);
    }

    private static void anImageIsKeptAgain() {
        Check.says("Promise 28: IMAGE i becomes what is so: 1.");
        SleepMint x = Check.town("m1 9 1;p40 5" + Z + ";");
        x.keep(0);
        x.hour(1);
        x.keep(1);
        x.hour(1);
        Check.due("keep(0) again", x.keep(0), 1);
        x.hour(1);
        Check.due("goBack(1)", x.goBack(1), 1);
        Check.due("told(7)", x.told(7), 1);
        Check.due("PURSE", x.person(0, 1), 6);
        Check.due("goBack(0)", x.goBack(0), 1);
        Check.due("told(7)", x.told(7), 2);
        Check.due("PURSE", x.person(0, 1), 7);
    }

    private static void goingBackTwice() {
        Check.says("Promise 29: What is so becomes IMAGE i: 1.");
        SleepMint x = Check.town("m1 2 9;p40 5" + Z + ";d0 0 1;d0 3 99;");
        Look first = new Look(x);
        x.keep(0);
        for (int k = 0; k < 3; k++) {
            x.hour(5);
            x.change(0, 2, 1);
            Check.due("goBack(0)", x.goBack(0), 1);
            // The image is not used up, and what is done behind it does not come into it.
            new Look(x).isDue("goBack(0)", first);
        }
        // What is tried is tried from there, not from where it was.
        x.hour(1);
        Check.due("firstShort(1)", x.firstShort(1), 3);
        Check.due("life(0, 1, -1)", x.life(0, 1, -1), 5 + 9);
        x.goBack(0);
        Check.due("life(0, 1, -1)", x.life(0, 1, -1), 5);
        Check.due("richest(0, 1)", x.richest(0, 1), 5);
    }
}
