/** Counts and prints the calls whose answer is not the one that is due. */
final class Check {
    static final int NONE = -1, UNKNOWN = -1000000001, OUTSIDE = -1000000002, NOT = -1000000003, FULL = -1000000004;
    static final String SLEEPS_ALL_DAY = "zzzzzzzzzzzzzzzzzzzzzzzz";
    static final String WORKS_ALL_DAY = "wwwwwwwwwwwwwwwwwwwwwwww";
    static final String RESTS_ALL_DAY = "........................";

    private static int calls = 0;
    private static int wrong = 0;

    private Check() {
    }

    static void due(String call, long got, long want) {
        calls++;
        if (got == want) return;
        wrong++;
        System.out.println(call + " answered " + got + ", due is " + want);
    }

    static int wrongSoFar() {
        return wrong;
    }

    static void feedAll(SleepMint x, String text) {
        for (int i = 0; i < text.length(); i++) {
            x.feed(text.charAt(i));
        }
    }

    static int tell(SleepMint x, String text) {
        feedAll(x, text);
        return x.capital();
    }

    static SleepMint town(String text) {
        SleepMint x = new SleepMint();
        int people = tell(x, text);
        if (people < 0) due("capital() of " + text, people, 0);
        return x;
    }

    static void end() {
        System.out.println(calls + " answers looked at, " + wrong + " not as due");
        if (wrong != 0) System.exit(1);
    }
}
