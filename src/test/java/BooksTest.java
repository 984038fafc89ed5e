/** Promises 24 to 29: the book, the seed, images. */
public final class BooksTest {
    private static final String Z = Check.SLEEPS_ALL_DAY;

    public static void main(String[] args) {
        writingAndTearing();
        judging();
        seeding();
        imagesKeepAll();
        imagesAreTheirOwn();
        imagesOfNothing();
        Check.end();
    }

    private static void writingAndTearing() {
        SleepMint x = Check.town("m1 2 9;p9 5 " + Z + ";p9 7 " + Z + ";");
        Check.due("write(2, -1)", x.write(2, -1), Check.UNKNOWN);
        Check.due("write(-1, 0)", x.write(-1, 0), Check.UNKNOWN);
        Check.due("write(0, -1)", x.write(0, -1), Check.OUTSIDE);
        Check.due("write(0, 10000)", x.write(0, 10000), Check.OUTSIDE);
        Check.due("told(11)", x.told(11), 0);
        Check.due("write(0, 9999)", x.write(0, 9999), 1);
        for (int k = 2; k <= 15; k++) Check.due("write(1, 0)", x.write(1, 0), k);
        Check.due("write(1, 0) at 15", x.write(1, 0), Check.FULL);
        Check.due("write(1, 10000) at 15", x.write(1, 10000), Check.OUTSIDE);
        Check.due("write(2, 0) at 15", x.write(2, 0), Check.UNKNOWN);
        Check.due("told(11)", x.told(11), 15);
        Check.due("tear()", x.tear(), 15);
        Check.due("tear()", x.tear(), 0);
        Check.due("told(11)", x.told(11), 0);
        Check.due("write(1, 0)", x.write(1, 0), 1);
    }

    private static void judging() {
        SleepMint x = Check.town("m1 2 9;p9 5 " + Z + ";p9 7 " + Z + ";");
        Check.due("judge()", x.judge(), Check.NONE);
        x.write(0, 5);
        x.write(1, 7);
        x.write(0, 5);
        Check.due("judge()", x.judge(), Check.NONE);
        x.write(1, 6);
        x.write(1, 8);
        Check.due("judge()", x.judge(), 3);
        x.hour(1);
        Check.due("judge() an hour later", x.judge(), 0);
        x.give(0, 1, 1);
        Check.due("judge() behind a gift", x.judge(), 1);
        x.tear();
        Check.due("judge() of no book", x.judge(), Check.NONE);
        x.write(1, 8);
        x.write(1, 7);
        Check.due("judge()", x.judge(), 1);
    }

    private static void seeding() {
        SleepMint x = new SleepMint();
        Check.due("seed(2147483647)", x.seed(2147483647), 0);
        Check.due("seed(-1)", x.seed(-1), Check.OUTSIDE);
        Check.due("seed(-2147483648)", x.seed(-2147483648), Check.OUTSIDE);
        Check.due("seed(6)", x.seed(6), 2147483647);
        Check.due("seed(0)", x.seed(0), 6);
    }

    private static void imagesKeepAll() {
        SleepMint x = Check.town("m1 2 9;p40 5 " + Z + ";p9 7 " + Z + ";d0 2 1;d1 3 99;d0 20 1;d1 21 99;");
        Check.due("goBack(0)", x.goBack(0), Check.NOT);
        Check.due("goBack(1)", x.goBack(1), Check.NOT);
        Check.due("keep(2)", x.keep(2), Check.UNKNOWN);
        Check.due("keep(-1)", x.keep(-1), Check.UNKNOWN);
        Check.due("goBack(2)", x.goBack(2), Check.UNKNOWN);
        Check.due("goBack(-1)", x.goBack(-1), Check.UNKNOWN);
        x.hour(5);
        x.seed(99);
        x.change(0, 7, 1);
        int[] state = look(x);
        Check.due("keep(1)", x.keep(1), 1);
        Check.due("goBack(0)", x.goBack(0), Check.NOT);
        x.change(0, 7, 2);
        x.change(1, 9, 2);
        x.drift(40);
        x.give(0, 1, 1);
        x.write(0, 1);
        Check.due("goBack(1)", x.goBack(1), 1);
        int[] again = look(x);
        for (int k = 0; k < state.length; k++) Check.due("look " + k + " behind goBack(1)", again[k], state[k]);
        Check.due("seed(99)", x.seed(99), 99);
        // The book is not in an image.
        Check.due("told(11)", x.told(11), 1);
    }

    private static int[] look(SleepMint x) {
        int[] all = new int[3 + 1 + 2 * 3 + 2 * 24];
        int k = 0;
        for (int what = 7; what <= 10; what++) all[k++] = x.told(what);
        for (int p = 0; p < 2; p++) {
            for (int what = 0; what < 3; what++) all[k++] = x.person(p, what);
            for (int h = 0; h < 24; h++) all[k++] = x.row(p, h);
        }
        return all;
    }

    private static void imagesAreTheirOwn() {
        SleepMint x = Check.town("m1 2 9;p40 5 " + Z + ";");
        x.keep(0);
        x.hour(1);
        x.keep(1);
        x.hour(1);
        Check.due("goBack(0)", x.goBack(0), 1);
        Check.due("told(7)", x.told(7), 0);
        Check.due("person(0, 1)", x.person(0, 1), 5);
        Check.due("goBack(1)", x.goBack(1), 1);
        Check.due("told(7)", x.told(7), 1);
        Check.due("person(0, 1)", x.person(0, 1), 6);
        x.hour(3);
        Check.due("goBack(1) again", x.goBack(1), 1);
        Check.due("person(0, 0)", x.person(0, 0), 36);
        x.change(0, 3, 2);
        x.keep(0);
        x.goBack(1);
        Check.due("row(0, 3)", x.row(0, 3), 0);
        x.goBack(0);
        Check.due("row(0, 3)", x.row(0, 3), 2);
    }

    private static void imagesOfNothing() {
        SleepMint x = new SleepMint();
        x.seed(8);
        Check.due("keep(0)", x.keep(0), 1);
        x.seed(9);
        Check.due("goBack(0)", x.goBack(0), 1);
        Check.due("seed(0)", x.seed(0), 8);
    }
}
