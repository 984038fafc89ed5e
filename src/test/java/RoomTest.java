import com.sun.management.ThreadMXBean;
import java.lang.management.ManagementFactory;

/** All calls of a run live in one room: what an object makes is little, and calls make nothing but the first life's tables. */
public final class RoomTest {
    private static final ThreadMXBean THREADS = (ThreadMXBean) ManagementFactory.getThreadMXBean();
    // A tenth of the room's 7.3 million elements, of four bytes at least.
    private static final long MOST_BYTES = 4 * 730000;
    private static final int MOST_CALLS = 512;
    private static final String TEXT = "m1 9 9;p60 0zzzzzzzzwwwwwwww........;p50 9zzzzzzzzzzzzzzzzzzzzzzzz;c7;c12;d0 47 1;d1 71 99;u1 5;";

    public static void main(String[] args) {
        // What Java itself makes for a call that is the first of its kind is none of the class's.
        bytesOfARun();
        bytesOfEachCallAgain();
        Check.says("All calls of one run live in ONE room");
        Check.due("a run's bytes are too many", bytesOfARun() > MOST_BYTES ? 1 : 0, 0);
        Check.due("bytes of calls behind the first life", bytesOfEachCallAgain(), 0);
        Check.end();
    }

    /** An object that is made, told its town, and asked for lives alone, each unlike the one before. */
    private static long bytesOfARun() {
        long before = THREADS.getCurrentThreadAllocatedBytes();
        SleepMint x = Check.town(TEXT);
        for (int calls = TEXT.length() + 1; calls < MOST_CALLS; calls++) x.life(calls % 2, 1 + calls % 48, -1);
        return THREADS.getCurrentThreadAllocatedBytes() - before;
    }

    private static long bytesOfEachCallAgain() {
        SleepMint x = Check.town(TEXT);
        x.life(0, 48, -1);
        long before = THREADS.getCurrentThreadAllocatedBytes();
        for (int time = 0; time < 3; time++) allCalls(x);
        for (int i = 0; i < TEXT.length(); i++) x.feed(TEXT.charAt(i));
        x.capital();
        allCalls(x);
        return THREADS.getCurrentThreadAllocatedBytes() - before;
    }

    private static void allCalls(SleepMint x) {
        x.hour(5);
        x.drift(5);
        x.give(1, 0, 1);
        x.change(0, 3, 1);
        x.write(0, 9);
        x.judge();
        x.keep(0);
        for (int what = 0; what < 12; what++) x.told(what);
        x.person(0, 0);
        x.row(0, 0);
        x.coin(0);
        x.debt(0, 3);
        for (int what = 0; what < 2; what++) {
            x.firstShort(what);
            x.richest(200, what);
            x.life(what, 48, -1);
            x.life(what, 30, 5);
            x.shift(5, what);
            x.coins(200, what);
            x.strike(what);
            x.prices(9999, 99, 3, what);
            x.robbed(what, 5, 0);
            x.run(9, what);
        }
        x.isFalse(5, 90, 5, 9, 4);
        x.seed(7);
        x.tear();
        x.fault();
        x.goBack(0);
    }
}
