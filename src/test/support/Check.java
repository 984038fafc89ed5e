/** Counts and prints the calls whose answer is not the one that is due. */
final class Check {
    static final int NONE = -1, UNKNOWN = -1000000001, OUTSIDE = -1000000002, NOT = -1000000003, FULL = -1000000004;
    static final String SLEEPS_ALL_DAY = "zzzzzzzzzzzzzzzzzzzzzzzz";
    static final String WORKS_ALL_DAY = "wwwwwwwwwwwwwwwwwwwwwwww";
    static final String RESTS_ALL_DAY = "........................";

    private static int calls = 0;
    private static int wrong = 0;
    private static String sentence = "";

    private Check() {
    }

    /** The sentence of the document that is looked at from here on; it is printed with what is not as due. */
    static void says(String words) {
        sentence = "[" + words + "] ";
    }

    static void due(String call, long got, long want) {
        calls++;
        if (got == want) return;
        wrong++;
        System.out.println(sentence + call + " answered " + got + ", due is " + want);
    }

    static int wrongSoFar() {
        return wrong;
    }

    static void feedAll(SleepMint x, String text) {
        for (int i = 0; i < text.length(); i++) {
            x.feed(text.charAt(i));
        }
    }

    static int tell(SleepMint x, String text) {
        feedAll(x, text);
        return x.capital();
    }

    static SleepMint town(String text) {
        SleepMint x = new SleepMint();
        int people = tell(x, text);
        if (people < 0) due("capital() of " + text, people, 0);
        return x;
    }

    /** A text without a fault, told to a new object. */
    static SleepMint good(String text, int people) {
        SleepMint x = new SleepMint();
        due("capital() of '" + text + "'", tell(x, text), people);
        due("fault() of '" + text + "'", x.fault(), NONE);
        return x;
    }

    /** A text whose first fault is of that kind and stands at that letter. */
    static void bad(String text, int kind, int place) {
        SleepMint x = new SleepMint();
        due("capital() of '" + text + "'", tell(x, text), -10 - kind);
        due("fault() of '" + text + "'", x.fault(), place);
    }

    static void end() {
        System.out.println(calls + " answers looked at, " + wrong + " not as due");
        if (wrong != 0) System.exit(1);
    }
}
