import java.util.Random;

/** Promise 16: a life planned. */
public final class LifeTest {
    private static final String R = Check.RESTS_ALL_DAY;

    public static void main(String[] args) {
        refusals();
        sleepAheadOfWork();
        workAheadOfRest();
        debtsAreMet();
        noWay();
        sleepGoesOn();
        rowsAndBedsDoNotCount();
        otherStateOtherLife();
        otherHourOtherLife();
        otherTirednessOtherLife();
        otherSleepOtherLife();
        longestLifeAndDeepestSleep();
        atTheMostInAPurse();
        heldAgainstAllWays();
        Check.end();
    }

    private static void does(SleepMint x, int p, int most, String acts) {
        int n = acts.length();
        Check.due("life(" + p + ", " + n + ", -1)", x.life(p, n, -1), most);
        for (int i = 0; i < n; i++) {
            Check.due("life(" + p + ", " + n + ", " + i + ")", x.life(p, n, i), "zw.".indexOf(acts.charAt(i)));
        }
    }

    private static void refusals() {
        SleepMint x = Check.town("m1 2 1;p0 0 " + R + ";");
        Check.due("life(1, 49, -2)", x.life(1, 49, -2), Check.UNKNOWN);
        Check.due("life(-1, 1, -1)", x.life(-1, 1, -1), Check.UNKNOWN);
        Check.due("life(0, 0, -1)", x.life(0, 0, -1), Check.OUTSIDE);
        Check.due("life(0, 49, -1)", x.life(0, 49, -1), Check.OUTSIDE);
        Check.due("life(0, 5, 5)", x.life(0, 5, 5), Check.OUTSIDE);
        Check.due("life(0, 5, -2)", x.life(0, 5, -2), Check.OUTSIDE);
        Check.due("life(0, 48, 47)", x.life(0, 48, 47), 0);
        Check.due("life(0, 1, -1) of nobody", new SleepMint().life(0, 1, -1), Check.UNKNOWN);
    }

    private static void sleepAheadOfWork() {
        // Never deep enough: each hour asleep is worth 1, and he is tired enough for all of them.
        does(Check.town("m1 9 1;p20 0 " + R + ";"), 0, 5, "zzzzz");
        // Not tired, he must work first.
        does(Check.town("m1 9 1;p0 0 " + R + ";"), 0, 1, "wz");
        // wz and zw are worth 1 alike: sleep comes first.
        does(Check.town("m1 9 1;p1 0 " + R + ";"), 0, 1, "zw");
        // By two hours at work he is tired enough for two of sleep, the second one deep and worth 9.
        SleepMint x = Check.town("m1 2 9;p1 0 " + R + ";");
        does(x, 0, 2, "zwz");
        does(x, 0, 10, "wwzz");
        does(x, 0, 11, "zwwzz");
    }

    private static void workAheadOfRest() {
        does(Check.town("m1 2 9;p0 0 " + R + ";"), 0, 0, "w");
        // Rest would make him tired enough, too; work is ahead of it, even in the last hour.
        does(Check.town("m1 9 9;p0 5 " + R + ";"), 0, 6, "wz");
        does(Check.town("m1 9 9;p0 5 " + R + ";"), 0, 6, "wzw");
    }

    private static void debtsAreMet() {
        // Without a debt two hours at work come first, for a third hour of sleep that is deep.
        does(Check.town("m1 3 9;p5 0 " + R + ";"), 0, 11, "wwzzz");
        // With one that is called at once he must sleep at once.
        SleepMint x = Check.town("m1 3 9;p5 0 " + R + ";d0 0 1;");
        does(x, 0, 0, "z");
        does(x, 0, 1, "zz");
        does(x, 0, 2, "zzwzw");
        // All that is earned is owed at once.
        does(Check.town("m1 9 1;p30 0 " + R + ";d0 0 1;d0 1 1;d0 2 1;"), 0, 0, "zzz");
        // Two debts of one hour are called together.
        does(Check.town("m1 2 5;p30 0 " + R + ";d0 1 3;d0 1 3;"), 0, 0, "zz");
        SleepMint others = Check.town("m1 2 5;p30 0 " + R + ";p30 0 " + R + ";d1 0 9;");
        does(others, 0, 1, "z");
        Check.due("life(1, 1, -1)", others.life(1, 1, -1), Check.NONE);
    }

    private static void noWay() {
        SleepMint x = Check.town("m1 2 9;p60 3 " + R + ";d0 0 5;d0 9 99;");
        Check.due("life(0, 1, -1)", x.life(0, 1, -1), Check.NONE);
        Check.due("life(0, 1, 0)", x.life(0, 1, 0), Check.NONE);
        Check.due("life(0, 1, 1)", x.life(0, 1, 1), Check.OUTSIDE);
        x.hour(1);
        Check.due("life(0, 9, -1)", x.life(0, 9, -1), Check.NONE);
        Check.due("life(0, 8, -1)", x.life(0, 8, -1), 3 + 1 + 7 * 9);
    }

    private static void sleepGoesOn() {
        SleepMint x = Check.town("m1 3 9;p60 0 zz" + R.substring(2) + ";");
        x.hour(2);
        does(x, 0, 2 + 9, "z");
        SleepMint y = Check.town("m1 9 9;p60 0 " + Check.SLEEPS_ALL_DAY + ";");
        y.hour(10);
        does(y, 0, 8 + 18 + 18, "zz");
    }

    private static void rowsAndBedsDoNotCount() {
        // The bed is another one's by the rows; in a life it is his own.
        SleepMint x = Check.town("m1 2 9;p60 0 " + Check.SLEEPS_ALL_DAY + ";p60 0 " + Check.WORKS_ALL_DAY + ";");
        does(x, 1, 1 + 9 + 9, "zzz");
    }

    private static void otherStateOtherLife() {
        SleepMint x = Check.town("m1 2 9;p60 5 " + R + ";p60 7 " + R + ";d0 30 90;");
        Check.due("life(0, 2, -1)", x.life(0, 2, -1), 15);
        Check.due("life(1, 2, -1)", x.life(1, 2, -1), 17);
        x.give(1, 0, 2);
        Check.due("life(1, 2, -1) behind a gift", x.life(1, 2, -1), 15);
        x.keep(0);
        x.hour(30);
        Check.due("life(0, 1, -1) when all is called", x.life(0, 1, -1), Check.NONE);
        x.goBack(0);
        Check.due("life(0, 1, -1) back again", x.life(0, 1, -1), 8);
        Check.tell(x, "m1 2 5;p60 7 " + R + ";");
        Check.due("life(0, 2, -1) of another town", x.life(0, 2, -1), 13);
        Check.tell(x, "m1 9 5;p60 7 " + R + ";");
        Check.due("life(0, 2, -1) of a third town", x.life(0, 2, -1), 9);
        Check.tell(x, "m1 9 5;p60 7 " + R + ";d0 0 9;");
        Check.due("life(0, 2, -1) of a fourth town", x.life(0, 2, -1), Check.NONE);
    }

    private static void otherHourOtherLife() {
        SleepMint x = Check.town("m1 2 9;p60 5 " + Check.WORKS_ALL_DAY + ";d0 21 9;");
        x.hour(20);
        Check.due("life(0, 1, -1) at 20", x.life(0, 1, -1), 6);
        x.hour(1);
        Check.due("life(0, 1, -1) at 21", x.life(0, 1, -1), Check.NONE);
    }

    private static void otherTirednessOtherLife() {
        SleepMint x = Check.town("m1 2 9;p2 0 " + Check.WORKS_ALL_DAY + ";");
        x.keep(0);
        x.hour(1);
        Check.due("life(0, 2, -1) of one who worked", x.life(0, 2, -1), 10);
        x.goBack(0);
        x.change(0, 0, 2);
        x.hour(1);
        Check.due("life(0, 2, -1) of one who rested", x.life(0, 2, -1), 1);
    }

    private static void otherSleepOtherLife() {
        SleepMint x = Check.town("m1 2 9;p30 0 zw" + R.substring(2) + ";");
        x.keep(0);
        x.hour(2);
        Check.due("life(0, 1, -1) of one who woke", x.life(0, 1, -1), 2);
        x.goBack(0);
        x.change(0, 0, 1);
        x.change(0, 1, 0);
        x.hour(2);
        Check.due("life(0, 1, -1) of one who sleeps", x.life(0, 1, -1), 10);
    }

    private static void longestLifeAndDeepestSleep() {
        String text = "m1 9 9;p60 0 " + R + ";d0 47 1;";
        SleepMint x = Check.town(text);
        PlainModel m = new PlainModel();
        for (int i = 0; i < text.length(); i++) m.feed(text.charAt(i));
        m.capital();
        Check.due("life(0, 48, -1)", x.life(0, 48, -1), m.life(0, 48, -1));
        for (int i = 0; i < 48; i += 5) Check.due("life(0, 48, " + i + ")", x.life(0, 48, i), m.life(0, 48, i));
        // The last hours of a longer life, of which all are before the last debt.
        x.hour(24);
        m.hour(24);
        Check.due("life(0, 24, -1)", x.life(0, 24, -1), m.life(0, 24, -1));
        Check.due("life(0, 24, 23)", x.life(0, 24, 23), m.life(0, 24, 23));
    }

    private static void atTheMostInAPurse() {
        SleepMint x = Check.town("m1 2 9;p60 99 zzzzzzzzzzwwwwwwwwwwwwww;d0 0 1;");
        for (int k = 0; k < 40; k++) x.hour(96);
        Check.due("person(0, 1)", x.person(0, 1), 9999);
        Check.due("life(0, 9, -1)", x.life(0, 9, -1), 9999);
        for (int i = 0; i < 9; i++) Check.due("life(0, 9, " + i + ")", x.life(0, 9, i), 0);
    }

    private static void heldAgainstAllWays() {
        Random random = new Random(16);
        for (int k = 0; k < 200; k++) {
            boolean isRich = k % 2 == 0;
            SleepMint x = new SleepMint();
            PlainModel m = new PlainModel();
            String text = randomTown(random, isRich);
            Check.tell(x, text);
            for (int i = 0; i < text.length(); i++) m.feed(text.charAt(i));
            m.capital();
            for (int h = 0; h < 200 && isRich && x.person(0, 1) < 9960; h++) {
                x.hour(24);
                m.hour(24);
            }
            int n = 1 + random.nextInt(k < 10 ? 48 : 24);
            Check.due("life(0, " + n + ", -1) of " + text, x.life(0, n, -1), m.life(0, n, -1));
            for (int i = 0; i < n; i += 1 + n / 4) {
                Check.due("life(0, " + n + ", " + i + ") of " + text, x.life(0, n, i), m.life(0, n, i));
            }
        }
    }

    private static String randomTown(Random random, boolean isRich) {
        StringBuilder s = new StringBuilder();
        s.append("m1 ").append(2 + random.nextInt(8)).append(' ').append(isRich ? 9 : 1 + random.nextInt(9)).append(';');
        s.append('p').append(random.nextInt(61)).append(' ').append(random.nextInt(30));
        s.append(isRich ? " zzzzzzzzzzwwwwwwwwwwwwww;" : " zzzzzzzzwwwwwwww........;");
        int debts = random.nextInt(9);
        for (int d = 0; d < debts; d++) {
            s.append("d0 ").append(random.nextInt(40)).append(' ').append(1 + random.nextInt(25)).append(';');
        }
        return s.toString();
    }
}
