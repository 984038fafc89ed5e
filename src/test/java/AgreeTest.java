import java.util.Random;

/**
 * What is tried agrees with what is done: a life that is lived, a debt that falls short, a coin that is struck. The
 * answers are held against the class's own hours and texts, not against a model of it.
 */
public final class AgreeTest {
    private static final String LETTERS = "zw.";
    private static final int MOST_HOURS_A_CALL = 96, TIMES = 60;

    private final Random random = new Random(8);
    private int livesLived = 0;
    private int debtsShort = 0;

    public static void main(String[] args) {
        AgreeTest test = new AgreeTest();
        for (int k = 0; k < TIMES; k++) {
            test.aLifeIsLived();
            test.noOtherLifeIsBetter();
            test.theFirstShortFallsShort();
            test.theRichestIsSo();
            test.drawsThatWakeNobody();
            test.anImageGoesOnAlike();
        }
        for (int k = 0; k < 20; k++) {
            test.changeAddsUp();
            test.theStruckCoinIsTold();
            test.robbedOfAnySum();
            test.theRunIsPaid();
        }
        test.nobodyLiesOutsideHisShift();
        test.pricesThatStayStay();
        Check.says("the draws of this test");
        Check.due("some lives were lived, and some had no way", test.livesLived > 10 && test.livesLived < TIMES ? 1 : 0, 1);
        Check.due("some debts fell short, and some did not", test.debtsShort > 10 && test.debtsShort < TIMES ? 1 : 0, 1);
        Check.end();
    }

    private int draw(int low, int high) {
        return low + random.nextInt(high - low + 1);
    }

    private String randomRow() {
        StringBuilder row = new StringBuilder();
        int lying = draw(0, 24);
        for (int h = 0; h < 24; h++) row.append(h < lying ? 'z' : LETTERS.charAt(random.nextInt(3)));
        return row.toString();
    }

    /** A town of one to three people with a bed for each of them, so that all live as if they were alone. */
    private String randomTown() {
        StringBuilder s = new StringBuilder("m5 " + draw(2, 9) + " " + draw(1, 9) + ";");
        int people = draw(1, 3);
        for (int p = 0; p < people; p++) {
            s.append('p').append(draw(0, 60)).append(' ').append(draw(0, 40)).append(randomRow()).append(';');
        }
        int debts = draw(0, 8);
        for (int d = 0; d < debts; d++) {
            s.append('d').append(random.nextInt(people)).append(' ').append(draw(0, 50)).append(' ').append(draw(1, 40)).append(';');
        }
        return s.toString();
    }

    /** Does at each hour from now on what he is told to do; the answer is what he has then, NONE if a debt fell short. */
    private static int live(SleepMint x, int p, int[] acts) {
        int before = shortOf(x, p);
        for (int act : acts) {
            x.change(p, x.told(7) % 24, act);
            x.hour(1);
        }
        return shortOf(x, p) == before ? x.person(p, 1) : Check.NONE;
    }

    private static int shortOf(SleepMint x, int p) {
        int set = 0;
        for (int d = 0; d < x.told(5); d++) {
            if (x.debt(d, 0) == p && x.debt(d, 3) == 2) set |= 1 << d;
        }
        return set;
    }

    private static SleepMint townAt(String text, int hours) {
        SleepMint x = Check.town(text);
        if (hours > 0) x.hour(hours);
        return x;
    }

    private void aLifeIsLived() {
        Check.says("A LIFE: the most in PURSE behind it: how much; what he does at the i-th HOUR");
        String text = randomTown();
        int hours = draw(0, 20);
        SleepMint x = townAt(text, hours);
        int p = random.nextInt(x.told(3));
        int n = draw(1, 48);
        int most = x.life(p, n, Check.NONE);
        if (most == Check.NONE) return;
        int[] acts = new int[n];
        for (int i = 0; i < n; i++) acts[i] = x.life(p, n, i);
        String call = "life(" + p + ", " + n + ", -1), lived, of " + text + " at " + hours;
        Check.due(call, live(townAt(text, hours), p, acts), most);
        livesLived++;
    }

    private void noOtherLifeIsBetter() {
        Check.says("A LIFE: the most in PURSE behind it; NONE: no way.");
        String text = randomTown();
        int hours = draw(0, 20);
        SleepMint x = townAt(text, hours);
        int p = random.nextInt(x.told(3));
        int n = draw(1, 30);
        int most = x.life(p, n, Check.NONE);
        for (int time = 0; time < 20; time++) {
            int[] acts = new int[n];
            int turn = draw(0, n);
            for (int i = 0; i < n; i++) acts[i] = random.nextInt(3) == 0 ? random.nextInt(3) : i < turn ? 1 : 0;
            int had = live(townAt(text, hours), p, acts);
            Check.due("life(" + p + ", " + n + ", -1) of " + text + " at " + hours + " is below " + had, had > most ? 1 : 0, 0);
        }
    }

    private void theFirstShortFallsShort() {
        Check.says("FIRST SHORT: the first DEBT that falls SHORT; at which hour");
        SleepMint x = townAt(randomTown(), draw(0, 20));
        int debt = x.firstShort(0);
        int at = x.firstShort(1);
        int before = x.told(9);
        for (int k = 0; k < 80 && x.told(9) == before; k++) x.hour(1);
        int fell = x.told(9) & ~before;
        Check.due("the first debt that fell short", fell == 0 ? Check.NONE : Integer.numberOfTrailingZeros(fell), debt);
        Check.due("its hour", fell == 0 ? Check.NONE : x.told(7) - 1, at);
        if (debt == Check.NONE) return;
        Check.due("debt(" + debt + ", 1)", x.debt(debt, 1), at);
        debtsShort++;
    }

    private void theRichestIsSo() {
        Check.says("RICHEST behind n HOURS: who has most; how much");
        SleepMint x = townAt(randomTown(), draw(0, 20));
        int n = draw(0, 200);
        int who = x.richest(n, 0);
        int purse = x.richest(n, 1);
        for (int left = n; left > 0; left -= MOST_HOURS_A_CALL) x.hour(Math.min(left, MOST_HOURS_A_CALL));
        Check.due("his PURSE behind " + n, x.person(who, 1), purse);
        for (int p = 0; p < x.told(3); p++) {
            boolean isRicher = p < who ? x.person(p, 1) >= purse : x.person(p, 1) > purse;
            Check.due(p + " is richer than " + who, isRicher ? 1 : 0, 0);
        }
    }

    private void drawsThatWakeNobody() {
        Check.says("BY DRAWS: ahead of each a DRAW of 6: on 0 a DRAW of PEOPLE is woken");
        String text = randomTown();
        int given = random.nextInt(Integer.MAX_VALUE);
        long seed = given;
        int n = 0;
        while (n < 96) {
            long next = (seed * 1103515245L + 12345L) % 2147483648L;
            if (next / 65536 % 6 == 0) break;
            seed = next;
            n++;
        }
        if (n == 0) return;
        SleepMint x = Check.town(text);
        SleepMint twin = Check.town(text);
        x.seed(given);
        Check.due("drift(" + n + ")", x.drift(n), twin.hour(n));
        new Look(x).isDue("draws that wake nobody", new Look(twin));
        Check.due("seed(0)", x.seed(0), seed);
    }

    private void anImageGoesOnAlike() {
        Check.says("IMAGES to go on from");
        SleepMint x = townAt(randomTown(), draw(0, 20));
        x.seed(random.nextInt(Integer.MAX_VALUE));
        int i = random.nextInt(2);
        x.keep(i);
        x.drift(60);
        int seed = x.seed(0);
        Look first = new Look(x);
        x.goBack(i);
        x.drift(60);
        new Look(x).isDue("the same hours once more", first);
        Check.due("seed(0)", x.seed(0), seed);
    }

    private String randomCoins(int most) {
        StringBuilder s = new StringBuilder("m1 2 1;");
        int told = 0;
        int count = draw(0, most);
        boolean[] isTold = new boolean[61];
        while (told < count) {
            int w = draw(2, random.nextBoolean() ? 12 : 60);
            if (isTold[w]) continue;
            isTold[w] = true;
            s.append('c').append(w).append(';');
            told++;
        }
        return s.toString();
    }

    private void changeAddsUp() {
        Check.says("CHANGE of v: how many; how many of worth w");
        String text = randomCoins(4);
        for (int v = 0; v <= 200; v += draw(1, 40)) {
            SleepMint x = Check.town(text);
            int together = 0;
            int count = 0;
            for (int w = 1; w <= 60; w++) {
                together += w * x.coins(v, w);
                count += x.coins(v, w);
            }
            Check.due("the worth of coins(" + v + ", ..) of " + text, together, v);
            Check.due("coins(" + v + ", -1) of " + text, x.coins(v, Check.NONE), count);
        }
    }

    private void theStruckCoinIsTold() {
        Check.says("STRIKE: CHANGE of 1 to 60, all together, is fewest; how much it is then");
        String text = randomCoins(3);
        SleepMint x = Check.town(text);
        int together = x.strike(1);
        Check.due("strike(1) of " + text, coinsTogether(text + "c" + x.strike(0) + ";"), together);
        for (int time = 0; time < 5; time++) {
            int other = draw(2, 60);
            if (text.contains("c" + other + ";")) continue;
            int with = coinsTogether(text + "c" + other + ";");
            boolean isBetter = other < x.strike(0) ? with <= together : with < together;
            Check.due(other + " is better than strike(0) of " + text, isBetter ? 1 : 0, 0);
        }
    }

    private static int coinsTogether(String text) {
        SleepMint x = Check.town(text);
        int sum = 0;
        for (int v = 1; v <= 60; v++) sum += x.coins(v, Check.NONE);
        return sum;
    }

    private void robbedOfAnySum() {
        Check.says("ROBBED of v together: SETS of PEOPLE with a told SET in them: all that fits");
        StringBuilder text = new StringBuilder("m1 2 1;");
        int people = draw(0, 5);
        for (int p = 0; p < people; p++) text.append("p0 0").append(Check.RESTS_ALL_DAY).append(';');
        for (int p = 0; p < people; p++) text.append('u').append(p).append(' ').append(draw(1, 20)).append(';');
        SleepMint x = Check.town(text.toString());
        int yawning = random.nextInt(1 << people);
        int sets = 0;
        for (int v = 0; v <= 100; v++) {
            sets += x.robbed(yawning, v, 0);
            int sure = x.robbed(yawning, v, 2);
            int least = x.robbed(yawning, v, 1);
            if (least == Check.NONE) Check.due("SURE of none", sure, 0);
            else Check.due("who yawned is SURE, and SURE is in the least", sure & yawning | sure & ~least, yawning);
        }
        Check.due("all SETS with " + yawning + " in them", sets, 1 << people - Integer.bitCount(yawning));
    }

    private void theRunIsPaid() {
        Check.says("A RUN on a bank that has r: who took out; who was not paid in full");
        StringBuilder text = new StringBuilder("m1 2 1;");
        int people = draw(1, 5);
        for (int p = 0; p < people; p++) {
            text.append('p').append(draw(0, 49)).append(' ').append(draw(0, 99)).append(Check.RESTS_ALL_DAY).append(';');
        }
        SleepMint x = Check.town(text.toString());
        int out = x.run(0, 0);
        int sum = 0;
        int owners = 0;
        for (int p = 0; p < people; p++) {
            if ((out >> p & 1) == 0) continue;
            sum += x.person(p, 1);
            if (x.person(p, 1) > 0) owners |= 1 << p;
        }
        Check.due("run(0, 1) of " + text, x.run(0, 1), owners);
        Check.due("run(" + sum + ", 1) of " + text, x.run(sum, 1), 0);
        if (sum > 0) Check.due("run(" + (sum - 1) + ", 1): one is short", Integer.bitCount(x.run(sum - 1, 1)), 1);
        Check.due("run(" + sum + ", 0): who takes out, whatever the bank has", x.run(sum, 0), out);
    }

    private void nobodyLiesOutsideHisShift() {
        Check.says("SHIFTS: beginning at 0 to 24 less l of one day, so that never more than BEDS lie");
        for (int beds = 1; beds <= 5; beds++) {
            for (int people = 1; people <= 5; people++) {
                String text = "m" + beds + " 2 1;" + ("p0 0" + Check.RESTS_ALL_DAY + ";").repeat(people);
                for (int l = 1; l <= 12; l++) liesInTurn(Check.town(text), l);
            }
        }
    }

    private static void liesInTurn(SleepMint x, int l) {
        int[] lying = new int[24];
        int people = x.told(3);
        boolean hasRoom = people <= x.told(0) * (24 / l);
        for (int p = 0; p < people; p++) {
            int begins = x.shift(l, p);
            Check.due("shift(" + l + ", " + p + ") is NONE", begins == Check.NONE ? 1 : 0, hasRoom ? 0 : 1);
            if (begins == Check.NONE) continue;
            Check.due("shift(" + l + ", " + p + ") is of one day", begins >= 0 && begins <= 24 - l ? 1 : 0, 1);
            for (int h = begins; h < begins + l && h < 24; h++) lying[h]++;
        }
        for (int h = 0; h < 24; h++) Check.due("too many lie at " + h, lying[h] > x.told(0) ? 1 : 0, 0);
    }

    private void pricesThatStayStay() {
        Check.says("PRICES: ROUNDS till it stays; at what");
        SleepMint x = new SleepMint();
        for (int k = 0; k < 100; k++) {
            int start = draw(0, 9999);
            int f = draw(0, 120);
            int g = draw(0, 99);
            int at = x.prices(start, f, g, 1);
            int rounds = x.prices(start, f, g, 0);
            Check.due("ROUNDS and price are NONE together", at == Check.NONE ? 1 : 0, rounds == Check.NONE ? 1 : 0);
            if (at == Check.NONE || at > 9999) continue;
            Check.due("prices(" + at + ", " + f + ", " + g + ", 0)", x.prices(at, f, g, 0), 0);
            int next = start * f / 100 + g;
            if (rounds > 0 && next <= 9999) Check.due("a ROUND later", x.prices(next, f, g, 0), rounds - 1);
        }
    }
}
