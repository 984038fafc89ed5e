import java.util.ArrayList;
import java.util.List;
import java.util.function.ToIntFunction;

/**
 * The Terms: of several refusals the first in the document's order, and what is refused changes nothing. Each refused
 * call is made on an object of which a twin exists that was not asked; both are looked at, and go on alike.
 */
public final class RefusalsTest {
    private static final int[] EXTREMES = {Integer.MIN_VALUE, Integer.MIN_VALUE + 1, -1000000004, -1000000001, -65536, -256,
        -33, -32, -31, -2, -1, 0, 1, 2, 3, 4, 5, 6, 8, 11, 12, 23, 24, 31, 32, 33, 48, 60, 64, 96, 99, 100, 200, 255, 256, 300,
        500, 999, 1000, 9999, 10000, 65536, 99999, 1 << 30, Integer.MAX_VALUE - 1, Integer.MAX_VALUE};

    private static final class Refused {
        final String call;
        final int due;
        final ToIntFunction<SleepMint> asked;

        Refused(String call, int due, ToIntFunction<SleepMint> asked) {
            this.call = call;
            this.due = due;
            this.asked = asked;
        }
    }

    private final List<Refused> all = new ArrayList<>();

    public static void main(String[] args) {
        RefusalsTest test = new RefusalsTest();
        test.whatIsToldIsRefused();
        test.whatIsDoneIsRefused();
        test.whatIsTriedIsRefused();
        test.booksAndImagesAreRefused();
        test.nothingChangesByARefusal();
        nothingChangesByAFullText();
        nothingChangesByAFullBook();
        nothingChangesByAnImageThatWasNotKept();
        nothingChangesWithoutBeds();
        allElseIsAsItWasBehindAFault();
        everyCallAnswers();
        Check.end();
    }

    private void refused(String call, int due, ToIntFunction<SleepMint> asked) {
        all.add(new Refused(call, due, asked));
    }

    // Of several refusals the first: UNKNOWN, OUTSIDE, NOT, FULL. The town has two people, two coins, three debts.

    private void whatIsToldIsRefused() {
        refused("feed(-1)", Check.OUTSIDE, x -> x.feed(-1));
        refused("feed(256)", Check.OUTSIDE, x -> x.feed(256));
        refused("told(-1)", Check.OUTSIDE, x -> x.told(-1));
        refused("told(12)", Check.OUTSIDE, x -> x.told(12));
        refused("person(2, 0)", Check.UNKNOWN, x -> x.person(2, 0));
        refused("person(2, 4)", Check.UNKNOWN, x -> x.person(2, 4));
        refused("person(1, 4)", Check.OUTSIDE, x -> x.person(1, 4));
        refused("row(2, 0)", Check.UNKNOWN, x -> x.row(2, 0));
        refused("row(2, 24)", Check.UNKNOWN, x -> x.row(2, 24));
        refused("row(1, 24)", Check.OUTSIDE, x -> x.row(1, 24));
        refused("coin(2)", Check.UNKNOWN, x -> x.coin(2));
        refused("debt(3, 0)", Check.UNKNOWN, x -> x.debt(3, 0));
        refused("debt(3, 4)", Check.UNKNOWN, x -> x.debt(3, 4));
        refused("debt(2, 4)", Check.OUTSIDE, x -> x.debt(2, 4));
    }

    private void whatIsDoneIsRefused() {
        refused("hour(0)", Check.OUTSIDE, x -> x.hour(0));
        refused("hour(97)", Check.OUTSIDE, x -> x.hour(97));
        refused("drift(0)", Check.OUTSIDE, x -> x.drift(0));
        refused("drift(97)", Check.OUTSIDE, x -> x.drift(97));
        refused("give(2, 0, 1)", Check.UNKNOWN, x -> x.give(2, 0, 1));
        refused("give(0, 2, 1)", Check.UNKNOWN, x -> x.give(0, 2, 1));
        refused("give(1, 1, 1)", Check.UNKNOWN, x -> x.give(1, 1, 1));
        refused("give(1, 1, 0)", Check.UNKNOWN, x -> x.give(1, 1, 0));
        refused("give(1, 1, 999)", Check.UNKNOWN, x -> x.give(1, 1, 999));
        refused("give(0, 2, 999)", Check.UNKNOWN, x -> x.give(0, 2, 999));
        refused("give(0, 1, 0)", Check.OUTSIDE, x -> x.give(0, 1, 0));
        refused("give(0, 1, 1000)", Check.OUTSIDE, x -> x.give(0, 1, 1000));
        refused("give(0, 1, 999)", Check.NOT, x -> x.give(0, 1, 999));
        refused("give(0, 1, all and 1)", Check.NOT, x -> x.give(0, 1, x.person(0, 1) + 1));
        refused("change(2, 0, 0)", Check.UNKNOWN, x -> x.change(2, 0, 0));
        refused("change(2, 24, 0)", Check.UNKNOWN, x -> x.change(2, 24, 0));
        refused("change(2, 0, 3)", Check.UNKNOWN, x -> x.change(2, 0, 3));
        refused("change(1, 24, 0)", Check.OUTSIDE, x -> x.change(1, 24, 0));
        refused("change(0, 24, 1)", Check.OUTSIDE, x -> x.change(0, 24, 1));
        refused("change(1, -1, 1)", Check.OUTSIDE, x -> x.change(1, -1, 1));
        refused("change(0, 8, 3)", Check.OUTSIDE, x -> x.change(0, 8, 3));
        refused("change(0, 8, -1)", Check.OUTSIDE, x -> x.change(0, 8, -1));
    }

    private void whatIsTriedIsRefused() {
        refused("firstShort(2)", Check.OUTSIDE, x -> x.firstShort(2));
        refused("richest(201, 0)", Check.OUTSIDE, x -> x.richest(201, 0));
        refused("richest(0, 2)", Check.OUTSIDE, x -> x.richest(0, 2));
        refused("life(2, 1, 0)", Check.UNKNOWN, x -> x.life(2, 1, 0));
        refused("life(2, 0, 0)", Check.UNKNOWN, x -> x.life(2, 0, 0));
        refused("life(2, 1, 1)", Check.UNKNOWN, x -> x.life(2, 1, 1));
        refused("life(1, 49, 0)", Check.OUTSIDE, x -> x.life(1, 49, 0));
        refused("life(1, 5, 5)", Check.OUTSIDE, x -> x.life(1, 5, 5));
        refused("shift(1, 2)", Check.UNKNOWN, x -> x.shift(1, 2));
        refused("shift(0, 2)", Check.UNKNOWN, x -> x.shift(0, 2));
        refused("shift(13, 1)", Check.OUTSIDE, x -> x.shift(13, 1));
        refused("coins(201, 1)", Check.OUTSIDE, x -> x.coins(201, 1));
        refused("coins(5, 0)", Check.OUTSIDE, x -> x.coins(5, 0));
        refused("coins(5, 61)", Check.OUTSIDE, x -> x.coins(5, 61));
        refused("strike(2)", Check.OUTSIDE, x -> x.strike(2));
        refused("isFalse(101, 1, 1, 1, 1)", Check.OUTSIDE, x -> x.isFalse(101, 1, 1, 1, 1));
        refused("isFalse(1, 1, 1, 1, 2)", Check.OUTSIDE, x -> x.isFalse(1, 1, 1, 1, 2));
        refused("prices(10000, 1, 1, 1)", Check.OUTSIDE, x -> x.prices(10000, 1, 1, 1));
        refused("prices(1, 1, 1, 2)", Check.OUTSIDE, x -> x.prices(1, 1, 1, 2));
        refused("robbed(4, 1, 0)", Check.UNKNOWN, x -> x.robbed(4, 1, 0));
        refused("robbed(4, 1000, 0)", Check.UNKNOWN, x -> x.robbed(4, 1000, 0));
        refused("robbed(4, 1, 3)", Check.UNKNOWN, x -> x.robbed(4, 1, 3));
        refused("robbed(3, 1000, 0)", Check.OUTSIDE, x -> x.robbed(3, 1000, 0));
        refused("robbed(3, 1, 3)", Check.OUTSIDE, x -> x.robbed(3, 1, 3));
        refused("run(1000, 0)", Check.OUTSIDE, x -> x.run(1000, 0));
        refused("run(0, 2)", Check.OUTSIDE, x -> x.run(0, 2));
    }

    private void booksAndImagesAreRefused() {
        refused("write(2, 0)", Check.UNKNOWN, x -> x.write(2, 0));
        refused("write(2, 10000)", Check.UNKNOWN, x -> x.write(2, 10000));
        refused("write(0, 10000)", Check.OUTSIDE, x -> x.write(0, 10000));
        refused("write(0, -1)", Check.OUTSIDE, x -> x.write(0, -1));
        refused("seed(-1)", Check.OUTSIDE, x -> x.seed(-1));
        refused("keep(2)", Check.UNKNOWN, x -> x.keep(2));
        refused("keep(-1)", Check.UNKNOWN, x -> x.keep(-1));
        refused("goBack(2)", Check.UNKNOWN, x -> x.goBack(2));
        refused("goBack(-1)", Check.UNKNOWN, x -> x.goBack(-1));
        // Image 1 is not kept.
        refused("goBack(1)", Check.NOT, x -> x.goBack(1));
    }

    /** In the middle of everything: hours and draws, debts of all kinds, a book, an image, half a text. */
    private static SleepMint busy() {
        SleepMint x = new SleepMint();
        Check.tell(x, "m2 3 5;p30 4zzzzzzzzwwwwwwww........;p20 40wwzzzzzzzzzz....zzzzzzzz;c5;c12;d0 1 3;d1 2 99;d1 71 9;u1 7;");
        x.seed(12);
        x.drift(3);
        x.write(1, x.person(1, 1));
        x.keep(0);
        x.drift(4);
        x.change(0, 23, 1);
        Check.feedAll(x, "m1 2 1;c7");
        return x;
    }

    /** Both go on alike: by the hour, by what is tried, by the image, by the text. */
    private static void goOn(String call, SleepMint x, SleepMint twin) {
        new Look(x).isDue(call, new Look(twin));
        for (SleepMint each : new SleepMint[] {x, twin}) {
            each.drift(30);
            each.feed(';');
        }
        Check.due("seed(3) behind " + call, x.seed(3), twin.seed(3));
        Check.due("firstShort(1) behind " + call, x.firstShort(1), twin.firstShort(1));
        Check.due("life(0, 20, -1) behind " + call, x.life(0, 20, -1), twin.life(0, 20, -1));
        Check.due("coins(17, -1) behind " + call, x.coins(17, -1), twin.coins(17, -1));
        Check.due("goBack(1) behind " + call, x.goBack(1), twin.goBack(1));
        Check.due("goBack(0) behind " + call, x.goBack(0), twin.goBack(0));
        new Look(x).isDue(call + " and going on", new Look(twin));
        Check.due("seed(4) behind " + call, x.seed(4), twin.seed(4));
        Check.due("tear() behind " + call, x.tear(), twin.tear());
        Check.due("capital() behind " + call, x.capital(), twin.capital());
        new Look(x).isDue(call + " and the next capital", new Look(twin));
    }

    private void nothingChangesByARefusal() {
        Check.says("REFUSALS, of several the first in this order; What is refused changes nothing.");
        for (Refused r : all) {
            SleepMint x = busy();
            Check.due(r.call, r.asked.applyAsInt(x), r.due);
            goOn(r.call, x, busy());
        }
        SleepMint x = busy();
        for (Refused r : all) Check.due(r.call + " among others", r.asked.applyAsInt(x), r.due);
        goOn("all that is refused", x, busy());
    }

    private static void nothingChangesByAFullText() {
        Check.says("What is refused changes nothing: FULL (250)");
        String text = "m1 2 1;" + " ".repeat(240) + "c7;";
        SleepMint x = new SleepMint();
        Check.feedAll(x, text);
        Check.due("feed(32)", x.feed(' '), Check.FULL);
        Check.due("feed(109)", x.feed('m'), Check.FULL);
        Check.due("feed(256)", x.feed(256), Check.OUTSIDE);
        Check.due("told(6)", x.told(6), 250);
        Check.due("capital()", x.capital(), 0);
        Check.due("coin(0)", x.coin(0), 7);
    }

    private static void nothingChangesByAFullBook() {
        Check.says("What is refused changes nothing: FULL (15)");
        SleepMint x = busy();
        SleepMint twin = busy();
        for (SleepMint each : new SleepMint[] {x, twin}) {
            while (each.told(11) < 15) each.write(0, each.person(0, 1));
        }
        Check.due("write(0, 0)", x.write(0, 0), Check.FULL);
        Check.due("write(0, -1)", x.write(0, -1), Check.OUTSIDE);
        Check.due("write(5, -1)", x.write(5, -1), Check.UNKNOWN);
        goOn("a full book", x, twin);
    }

    private static void nothingChangesByAnImageThatWasNotKept() {
        Check.says("What is refused changes nothing: NOT: it was not kept.");
        SleepMint x = new SleepMint();
        x.seed(9);
        Check.due("goBack(0)", x.goBack(0), Check.NOT);
        Check.due("goBack(1)", x.goBack(1), Check.NOT);
        Check.due("seed(0)", x.seed(0), 9);
        Check.due("keep(1)", x.keep(1), 1);
        Check.due("goBack(0)", x.goBack(0), Check.NOT);
    }

    private static void nothingChangesWithoutBeds() {
        Check.says("What is refused changes nothing: NOT: no BEDS");
        SleepMint x = new SleepMint();
        x.seed(9);
        Check.due("hour(96)", x.hour(96), Check.NOT);
        Check.due("drift(96)", x.drift(96), Check.NOT);
        Check.due("told(7)", x.told(7), 0);
        Check.due("seed(0)", x.seed(0), 9);
    }

    private static void allElseIsAsItWasBehindAFault() {
        Check.says("Promise 3: -10 less the number of its FAULT (all else is as it was)");
        // What busy() left of a text is read, too: it is "m1 2 1;c7".
        String[] rest = {"x", "0;", ";m", ";c7;"};
        int[] answers = {-11, -12, -13, -14};
        int[] places = {9, 8, 10, 11};
        for (int k = 0; k < 4; k++) {
            SleepMint x = busy();
            SleepMint twin = busy();
            Check.feedAll(x, rest[k]);
            Check.due("capital()", x.capital(), answers[k]);
            Check.due("fault()", x.fault(), places[k]);
            Check.due("told(6)", x.told(6), 0);
            new Look(x).isDueButForTheText("a fault", new Look(twin));
            Check.due("coins(17, -1) behind a fault", x.coins(17, -1), twin.coins(17, -1));
            Check.due("life(0, 20, -1) behind a fault", x.life(0, 20, -1), twin.life(0, 20, -1));
            Check.due("drift(9) behind a fault", x.drift(9), twin.drift(9));
            Check.due("seed(1) behind a fault", x.seed(1), twin.seed(1));
            Check.due("goBack(1) behind a fault", x.goBack(1), Check.NOT);
            Check.due("goBack(0) behind a fault", x.goBack(0), twin.goBack(0));
            new Look(x).isDueButForTheText("a fault and going back", new Look(twin));
        }
        SleepMint early = new SleepMint();
        Check.due("capital() of a new object", Check.tell(early, "m5 9 9;p60 99" + Check.SLEEPS_ALL_DAY + ";c7;d0 0 1;x"), -11);
        for (int what = 0; what < 12; what++) Check.due("told(" + what + ") of a new object", early.told(what), 0);
        Check.due("hour(1) of a new object", early.hour(1), Check.NOT);
    }

    /** Whatever the numbers are, a call answers and does not throw; a refusal is one of the four. */
    private static void everyCallAnswers() {
        Check.says("The calls answer whatever they are asked");
        String[] texts = {"", "m1 2 1;", "m2 3 5;p30 4zzzzzzzzwwwwwwww........;c5;d0 9 9;",
            "m5 9 9;" + "p9 9zzzzzzzzzzzzzzzzzzzzzzzz;".repeat(5) + "c2;c3;c4;c60;d4 0 9;u4 20;"};
        for (String text : texts) {
            for (int a : EXTREMES) {
                for (int b : EXTREMES) answersAll(Check.town(text), a, b);
            }
        }
    }

    private static void answersAll(SleepMint x, int a, int b) {
        int[] answers = {x.feed(a), x.told(a), x.person(a, b), x.row(a, b), x.coin(a), x.debt(a, b), x.drift(a),
            x.hour(b), x.give(a, b, 1), x.give(0, a, b), x.change(a, b, 0), x.change(0, a, b), x.firstShort(a), x.richest(a, b),
            x.life(a, b, 0), x.life(0, a, b), x.life(0, a, -1), x.shift(a, b), x.coins(a, b), x.strike(a), x.isFalse(a, b, 1, 1, 0),
            x.isFalse(50, 1, a, 9, b), x.isFalse(50, 1, 2, a, b), x.prices(a, b, 0, 0), x.prices(0, 0, a, b), x.robbed(a, b, 0),
            x.robbed(0, a, b), x.run(a, b), x.write(a, b), x.write(0, b), x.tear(), x.judge(), x.seed(a), x.keep(a), x.goBack(b),
            x.capital(), x.fault()};
        for (int k = 0; k < answers.length; k++) {
            boolean isAnswer = answers[k] >= -14 || answers[k] <= Check.UNKNOWN && answers[k] >= Check.FULL;
            if (!isAnswer) Check.due("call " + k + " with " + a + ", " + b, answers[k], 0);
        }
        Check.due("told(6) behind capital()", x.told(6), 0);
    }
}
