import java.util.Arrays;

/** A capital in which one pays in hours slept. The document of the project says what each call answers. */
public final class SleepMint {
    public static final int NONE = -1, UNKNOWN = -1000000001, OUTSIDE = -1000000002, NOT = -1000000003, FULL = -1000000004;

    private static final int MOST_LETTERS = 250, MOST_PEOPLE = 5, MOST_COINS = 4, MOST_DEBTS = 8, MOST_ENTRIES = 15;
    private static final int MOST_BEDS = 5, MOST_DEEP = 9, MOST_GAIN = 9, MOST_WORTH = 60, MOST_YAWN = 20;
    private static final int MOST_TIRED = 99, MOST_PURSE = 9999, LAST_DEBT_HOUR = 71, DAY = 24;
    private static final int SLEEPS = 0, WORKS = 1, RESTS = 2;
    private static final int SLEEP_EASES = 4, WORK_TIRES = 3, REST_TIRES = 1, WAKING_TIRES = 5;
    private static final int MOST_HOURS_A_CALL = 96, MOST_HOURS = 90000, HOURS_TRIED = 80, MOST_HOURS_TRIED = 200;
    private static final int MOST_LIFE = 48, MOST_SHIFT = 12, MOST_CHANGE = 200, STRIKE_CHANGE = 60;
    private static final int MOST_GIVEN = 999, MOST_ROBBED = 999, MOST_BANK = 999, MOST_TESTS = 9;
    private static final int MOST_PRICE = 9999, MOST_FACTOR = 300, MOST_ADDED = 99, MOST_ROUNDS = 500, RUNAWAY = 99999;
    private static final long BILLION = 1000000000L, MILLION = 1000000L;

    private Town town = new Town();
    private final Reader reader = new Reader();
    private final Moment now = new Moment();
    private final Moment trial = new Moment();
    private final Moment imageZero = new Moment();
    private final Moment imageOne = new Moment();
    private int kept = 0;
    private final LifePlan plan = new LifePlan();
    private final CoinTable table = new CoinTable();
    private final int[] entryOf = new int[MOST_ENTRIES];
    private final int[] entryPurse = new int[MOST_ENTRIES];
    private int entries = 0;

    public SleepMint() {
    }

    // ---- the capital

    public int feed(int letter) {
        if (!isWithin(letter, 0, 255)) return OUTSIDE;
        if (reader.size >= MOST_LETTERS) return FULL;
        return reader.add(letter);
    }

    public int capital() {
        if (!reader.read()) return -10 - reader.faultKind;
        Town old = town;
        town = reader.into;
        reader.into = old;
        int seedBefore = now.seedValue;
        now.copyFrom(town.start);
        now.seedValue = seedBefore;
        entries = 0;
        kept = 0;
        plan.forget();
        table.forget();
        return town.people;
    }

    public int fault() {
        return reader.faultPlace;
    }

    public int told(int what) {
        switch (what) {
            case 0: return town.beds;
            case 1: return town.deep;
            case 2: return town.gain;
            case 3: return town.people;
            case 4: return town.coinCount;
            case 5: return town.debtCount;
            case 6: return reader.size;
            case 7: return now.hours;
            case 8: return now.paid;
            case 9: return now.missed;
            case 10: return now.sleepers(town.people);
            case 11: return entries;
            default: return OUTSIDE;
        }
    }

    public int person(int p, int what) {
        if (!isPerson(p)) return UNKNOWN;
        switch (what) {
            case 0: return now.tired[p];
            case 1: return now.purse[p];
            case 2: return now.sleep[p];
            case 3: return town.yawn[p];
            default: return OUTSIDE;
        }
    }

    public int row(int p, int h) {
        if (!isPerson(p)) return UNKNOWN;
        if (!isWithin(h, 0, DAY - 1)) return OUTSIDE;
        return now.rows[p * DAY + h];
    }

    public int coin(int c) {
        if (!isWithin(c, 0, town.coinCount - 1)) return UNKNOWN;
        return town.worth[c];
    }

    public int debt(int d, int what) {
        if (!isWithin(d, 0, town.debtCount - 1)) return UNKNOWN;
        switch (what) {
            case 0: return town.debtor[d];
            case 1: return town.debtHour[d];
            case 2: return town.debtValue[d];
            case 3: return debtState(d);
            default: return OUTSIDE;
        }
    }

    private int debtState(int d) {
        if (isIn(now.paid, d)) return 1;
        return isIn(now.missed, d) ? 2 : 0;
    }

    // ---- what is done

    public int hour(int n) {
        int refusal = refusalOfHours(n);
        if (refusal != 0) return refusal;
        now.passHours(town, n);
        return now.hours;
    }

    public int drift(int n) {
        int refusal = refusalOfHours(n);
        if (refusal != 0) return refusal;
        for (int k = 0; k < n; k++) {
            now.wakeByDraw(town.people);
            now.passHour(town);
        }
        return now.hours;
    }

    private int refusalOfHours(int n) {
        if (!isWithin(n, 1, MOST_HOURS_A_CALL)) return OUTSIDE;
        if (town.beds == 0) return NOT;
        return now.hours > MOST_HOURS ? FULL : 0;
    }

    public int give(int a, int b, int v) {
        if (!isPerson(a) || !isPerson(b) || a == b) return UNKNOWN;
        if (!isWithin(v, 1, MOST_GIVEN)) return OUTSIDE;
        if (now.purse[a] < v) return NOT;
        now.purse[a] -= v;
        now.purse[b] = Math.min(now.purse[b] + v, MOST_PURSE);
        return now.purse[a];
    }

    public int change(int p, int h, int what) {
        if (!isPerson(p)) return UNKNOWN;
        if (!isWithin(h, 0, DAY - 1) || !isWithin(what, SLEEPS, RESTS)) return OUTSIDE;
        int said = now.rows[p * DAY + h];
        now.rows[p * DAY + h] = what;
        return said;
    }

    // ---- tried

    public int firstShort(int what) {
        if (!isWithin(what, 0, 1)) return OUTSIDE;
        trial.copyFrom(now);
        for (int k = 0; k < HOURS_TRIED && trial.hours <= LAST_DEBT_HOUR; k++) {
            int before = trial.missed;
            trial.passHour(town);
            int fell = trial.missed & ~before;
            if (fell != 0) return what == 0 ? leastOf(fell) : trial.hours - 1;
        }
        return NONE;
    }

    public int richest(int n, int what) {
        if (!isWithin(n, 0, MOST_HOURS_TRIED) || !isWithin(what, 0, 1)) return OUTSIDE;
        if (town.people == 0) return NONE;
        trial.copyFrom(now);
        trial.passHours(town, n);
        int who = 0;
        for (int p = 1; p < town.people; p++) {
            if (trial.purse[p] > trial.purse[who]) who = p;
        }
        return what == 0 ? who : trial.purse[who];
    }

    public int life(int p, int n, int i) {
        if (!isPerson(p)) return UNKNOWN;
        if (!isWithin(n, 1, MOST_LIFE) || !isWithin(i, NONE, n - 1)) return OUTSIDE;
        plan.make(town, now, p, n);
        if (plan.most == NONE || i == NONE) return plan.most;
        return plan.acts[i];
    }

    public int shift(int l, int p) {
        if (!isPerson(p)) return UNKNOWN;
        if (!isWithin(l, 1, MOST_SHIFT)) return OUTSIDE;
        if (town.beds < 1) return NONE;
        // All lie equally long, so the beds fill in rounds: nobody can begin within a round that is full.
        int lastRound = (town.people - 1) / town.beds;
        if ((lastRound + 1) * l > DAY) return NONE;
        return p / town.beds * l;
    }

    public int coins(int v, int w) {
        if (!isWithin(v, 0, MOST_CHANGE)) return OUTSIDE;
        if (w != NONE && !isWithin(w, 1, MOST_WORTH)) return OUTSIDE;
        table.prepare(town);
        return w == NONE ? table.fewest[v] : table.countOf(w, v);
    }

    public int strike(int what) {
        if (!isWithin(what, 0, 1)) return OUTSIDE;
        table.prepare(town);
        table.findStrike();
        return what == 0 ? table.strikeWorth : table.strikeTotal;
    }

    public int isFalse(int p, int a, int b, int n, int k) {
        if (!isWithin(p, 0, 100) || !isWithin(a, 0, 100) || !isWithin(b, 0, 100)) return OUTSIDE;
        if (!isWithin(n, 0, MOST_TESTS) || !isWithin(k, 0, n)) return OUTSIDE;
        long bad = partsOfBillion(p, a, n, k);
        long both = bad + partsOfBillion(100 - p, b, n, k);
        return both == 0 ? 0 : (int) (bad * MILLION / both);
    }

    private static long partsOfBillion(int atFirst, int saysSo, int n, int k) {
        long parts = BILLION * atFirst / 100;
        for (int test = 0; test < n; test++) {
            parts = parts * (test < k ? saysSo : 100 - saysSo) / 100;
        }
        return parts;
    }

    public int prices(int x, int f, int g, int what) {
        if (!isWithin(x, 0, MOST_PRICE) || !isWithin(f, 0, MOST_FACTOR)) return OUTSIDE;
        if (!isWithin(g, 0, MOST_ADDED) || !isWithin(what, 0, 1)) return OUTSIDE;
        int price = x;
        for (int round = 0; round <= MOST_ROUNDS; round++) {
            int next = price * f / 100 + g;
            if (next == price) return what == 0 ? round : price;
            if (next > RUNAWAY) return NONE;
            price = next;
        }
        return NONE;
    }

    public int robbed(int yawning, int v, int what) {
        int all = 1 << town.people;
        if (!isWithin(yawning, 0, all - 1)) return UNKNOWN;
        if (!isWithin(v, 0, MOST_ROBBED) || !isWithin(what, 0, 2)) return OUTSIDE;
        int count = 0;
        int least = NONE;
        int sure = all - 1;
        for (int set = 0; set < all; set++) {
            if ((set & yawning) != yawning || town.yawnsOf(set) != v) continue;
            if (count == 0) least = set;
            count++;
            sure &= set;
        }
        if (what == 0) return count;
        if (what == 1) return least;
        return count == 0 ? 0 : sure;
    }

    public int run(int r, int what) {
        if (!isWithin(r, 0, MOST_BANK) || !isWithin(what, 0, 1)) return OUTSIDE;
        int left = r;
        int out = 0;
        int unpaid = 0;
        for (int others = 0; others < town.people; others++) {
            int p = nextToRun(out, others);
            if (p == NONE) break;
            out |= 1 << p;
            if (now.purse[p] > left) unpaid |= 1 << p;
            left -= Math.min(now.purse[p], left);
        }
        return what == 0 ? out : unpaid;
    }

    private int nextToRun(int out, int others) {
        for (int p = 0; p < town.people; p++) {
            if (!isIn(out, p) && others >= now.tired[p] / 10) return p;
        }
        return NONE;
    }

    // ---- books, images

    public int write(int p, int v) {
        if (!isPerson(p)) return UNKNOWN;
        if (!isWithin(v, 0, MOST_PURSE)) return OUTSIDE;
        if (entries >= MOST_ENTRIES) return FULL;
        entryOf[entries] = p;
        entryPurse[entries] = v;
        entries++;
        return entries;
    }

    public int tear() {
        int had = entries;
        entries = 0;
        return had;
    }

    public int judge() {
        for (int e = 0; e < entries; e++) {
            if (now.purse[entryOf[e]] != entryPurse[e]) return e;
        }
        return NONE;
    }

    public int seed(int v) {
        if (v < 0) return OUTSIDE;
        int was = now.seedValue;
        now.seedValue = v;
        return was;
    }

    public int keep(int i) {
        if (!isWithin(i, 0, 1)) return UNKNOWN;
        imageOf(i).copyFrom(now);
        kept |= 1 << i;
        return 1;
    }

    public int goBack(int i) {
        if (!isWithin(i, 0, 1)) return UNKNOWN;
        if (!isIn(kept, i)) return NOT;
        now.copyFrom(imageOf(i));
        return 1;
    }

    private Moment imageOf(int i) {
        return i == 0 ? imageZero : imageOne;
    }

    private boolean isPerson(int p) {
        return isWithin(p, 0, town.people - 1);
    }

    private static boolean isWithin(int x, int low, int high) {
        return x >= low && x <= high;
    }

    private static boolean isIn(int set, int k) {
        return ((set >> k) & 1) == 1;
    }

    private static int leastOf(int set) {
        for (int k = 0; k < 31; k++) {
            if (isIn(set, k)) return k;
        }
        return NONE;
    }

    /** What the text tells, and the moment in which the capital begins. */
    private static final class Town {
        int beds, deep, gain, people, coinCount, debtCount, yawnsTold;
        final int[] worth = new int[MOST_COINS];
        final int[] debtor = new int[MOST_DEBTS];
        final int[] debtHour = new int[MOST_DEBTS];
        final int[] debtValue = new int[MOST_DEBTS];
        final int[] yawn = new int[MOST_PEOPLE];
        final Moment start = new Moment();

        void clear() {
            beds = 0;
            deep = 0;
            gain = 0;
            people = 0;
            coinCount = 0;
            debtCount = 0;
            yawnsTold = 0;
            Arrays.fill(yawn, 1);
        }

        boolean hasCoin(int w) {
            for (int c = 0; c < coinCount; c++) {
                if (worth[c] == w) return true;
            }
            return false;
        }

        int yawnsOf(int set) {
            int sum = 0;
            for (int p = 0; p < people; p++) {
                if (isIn(set, p)) sum += yawn[p];
            }
            return sum;
        }
    }

    /** All that an image keeps: how the people are, what was paid, the hours and the seed. */
    private static final class Moment {
        final int[] tired = new int[MOST_PEOPLE];
        final int[] sleep = new int[MOST_PEOPLE];
        final int[] purse = new int[MOST_PEOPLE];
        final int[] rows = new int[MOST_PEOPLE * DAY];
        int paid, missed, hours, seedValue;

        void copyFrom(Moment other) {
            System.arraycopy(other.tired, 0, tired, 0, MOST_PEOPLE);
            System.arraycopy(other.sleep, 0, sleep, 0, MOST_PEOPLE);
            System.arraycopy(other.purse, 0, purse, 0, MOST_PEOPLE);
            System.arraycopy(other.rows, 0, rows, 0, MOST_PEOPLE * DAY);
            paid = other.paid;
            missed = other.missed;
            hours = other.hours;
            seedValue = other.seedValue;
        }

        int sleepers(int people) {
            int set = 0;
            for (int p = 0; p < people; p++) {
                if (sleep[p] > 0) set |= 1 << p;
            }
            return set;
        }

        void passHours(Town town, int n) {
            for (int k = 0; k < n; k++) {
                passHour(town);
            }
        }

        void passHour(Town town) {
            int hourOfDay = hours % DAY;
            int bedsFree = town.beds;
            for (int p = 0; p < town.people; p++) {
                int does = rows[p * DAY + hourOfDay];
                if (does == SLEEPS && tired[p] > 0 && bedsFree > 0) {
                    bedsFree--;
                    lie(p, town);
                } else {
                    sleep[p] = 0;
                    tire(p, does == WORKS ? WORK_TIRES : REST_TIRES);
                }
            }
            if (hours <= LAST_DEBT_HOUR) callDebts(town);
            hours++;
        }

        private void lie(int p, Town town) {
            sleep[p]++;
            tired[p] = Math.max(tired[p] - SLEEP_EASES, 0);
            int earned = sleep[p] >= town.deep ? town.gain : 1;
            purse[p] = Math.min(purse[p] + earned, MOST_PURSE);
        }

        private void tire(int p, int more) {
            tired[p] = Math.min(tired[p] + more, MOST_TIRED);
        }

        private void callDebts(Town town) {
            for (int d = 0; d < town.debtCount; d++) {
                if (town.debtHour[d] != hours) continue;
                int p = town.debtor[d];
                if (purse[p] >= town.debtValue[d]) {
                    purse[p] -= town.debtValue[d];
                    paid |= 1 << d;
                } else {
                    missed |= 1 << d;
                }
            }
        }

        void wakeByDraw(int people) {
            if (draw(6) != 0 || people == 0) return;
            int p = draw(people);
            sleep[p] = 0;
            tire(p, WAKING_TIRES);
        }

        private int draw(int n) {
            seedValue = (int) ((seedValue * 1103515245L + 12345L) & 0x7fffffffL);
            return n < 1 ? 0 : seedValue / 65536 % n;
        }
    }

    /** Holds the text and reads it into a town, up to its first fault. */
    private static final class Reader {
        private static final int BLANK = 32, END = -1;
        private static final int MISPLACED = 1, BAD_NUMBER = 2, TOO_MANY = 3, TOLD_AGAIN = 4;

        private final int[] letters = new int[MOST_LETTERS];
        private int at = 0;
        private int numberAt = 0;
        Town into = new Town();
        int size = 0;
        int faultKind = 0;
        int faultPlace = NONE;

        int add(int letter) {
            if (size < MOST_LETTERS) {
                letters[size] = letter;
                size++;
            }
            return size;
        }

        /** Whether the text has no fault; it is empty afterwards either way. */
        boolean read() {
            into.clear();
            at = 0;
            faultKind = 0;
            faultPlace = NONE;
            for (int clauses = 0; clauses < MOST_LETTERS && isGood() && peek() != END; clauses++) {
                readClause();
            }
            size = 0;
            return isGood();
        }

        private boolean isGood() {
            return faultKind == 0;
        }

        private void fail(int kind, int place) {
            if (!isGood()) return;
            faultKind = kind;
            faultPlace = place;
        }

        /** The next letter that is no blank: it stands at 'at' then. */
        private int peek() {
            while (at < size && letters[at] == BLANK) at++;
            return at < size ? letters[at] : END;
        }

        private void readClause() {
            int word = peek();
            if (into.beds == 0 && word != 'm') {
                fail(MISPLACED, at);
                return;
            }
            switch (word) {
                case 'm': readBeds(); break;
                case 'p': readPerson(); break;
                case 'c': readCoin(); break;
                case 'd': readDebt(); break;
                case 'u': readYawn(); break;
                default: fail(MISPLACED, at);
            }
            if (isGood()) expect(';');
        }

        private void expect(int letter) {
            if (peek() != letter) fail(MISPLACED, at);
            else at++;
        }

        /** Steps over a word of which there may be only so many. */
        private void stepOverWord(boolean isOneTooMany) {
            if (isOneTooMany) fail(TOO_MANY, at);
            else at++;
        }

        private void readBeds() {
            stepOverWord(into.beds != 0);
            into.beds = readNumber(1, MOST_BEDS);
            into.deep = readNumber(2, MOST_DEEP);
            into.gain = readNumber(1, MOST_GAIN);
        }

        private void readPerson() {
            stepOverWord(into.people >= MOST_PEOPLE);
            int tired = readNumber(0, 60);
            int purse = readNumber(0, 99);
            if (!isGood()) return;
            int p = into.people;
            into.start.tired[p] = tired;
            into.start.purse[p] = purse;
            for (int h = 0; h < DAY && isGood(); h++) {
                into.start.rows[p * DAY + h] = readDoing();
            }
            into.people++;
        }

        private int readDoing() {
            int letter = peek();
            if (letter != 'z' && letter != 'w' && letter != '.') {
                fail(MISPLACED, at);
                return RESTS;
            }
            at++;
            if (letter == 'z') return SLEEPS;
            return letter == 'w' ? WORKS : RESTS;
        }

        private void readCoin() {
            stepOverWord(into.coinCount >= MOST_COINS);
            int worth = readNumber(2, MOST_WORTH);
            if (into.hasCoin(worth)) fail(TOLD_AGAIN, numberAt);
            if (!isGood()) return;
            into.worth[into.coinCount] = worth;
            into.coinCount++;
        }

        private void readDebt() {
            stepOverWord(into.debtCount >= MOST_DEBTS);
            int p = readNumber(0, into.people - 1);
            int hour = readNumber(0, LAST_DEBT_HOUR);
            int value = readNumber(1, 99);
            if (!isGood()) return;
            into.debtor[into.debtCount] = p;
            into.debtHour[into.debtCount] = hour;
            into.debtValue[into.debtCount] = value;
            into.debtCount++;
        }

        private void readYawn() {
            stepOverWord(false);
            int p = readNumber(0, into.people - 1);
            if (isGood() && isIn(into.yawnsTold, p)) fail(TOLD_AGAIN, numberAt);
            int yawn = readNumber(1, MOST_YAWN);
            if (!isGood()) return;
            into.yawn[p] = yawn;
            into.yawnsTold |= 1 << p;
        }

        /** The next number, or 0 behind a fault. */
        private int readNumber(int low, int high) {
            if (!isGood()) return 0;
            if (!isFigure(peek())) {
                fail(MISPLACED, at);
                return 0;
            }
            numberAt = at;
            int value = 0;
            while (at < size && isFigure(letters[at])) {
                // Beyond three figures it is a fault whatever it is, and must not wrap around.
                if (at - numberAt < 3) value = value * 10 + letters[at] - '0';
                at++;
            }
            if (at - numberAt > 3 || !isWithin(value, low, high)) {
                fail(BAD_NUMBER, numberAt);
                return 0;
            }
            return value;
        }

        private static boolean isFigure(int letter) {
            return isWithin(letter, '0', '9');
        }
    }

    /**
     * The best life of one person. How he is at an hour is how tired he is and how long he slept; hours of sleep beyond
     * those that make the next one deep are all alike. Rest is never part of the first best life: work in its place
     * leaves him as rich and no less tired, so all that follows can be done too, and work is ahead of rest.
     *
     * Up to his last debt the hours are gone through forwards for the most that he can have at the end, then backwards
     * for what he needs to get there; behind it a table of what can be earned tells, which all lives of a town share.
     */
    private static final class LifePlan {
        private static final int TABLE_SIZE = (MOST_LIFE + 1) * (MOST_TIRED + 1) * MOST_DEEP;

        // The two tables are made for the first life that is asked for: many an object is never asked.
        // By hour and state: first the most that he can have, NONE where he cannot be; then what he needs at least.
        private int[] purses = new int[0];
        // By hours left and state.
        private int[] earnings = new int[0];
        private int earningsKnown = 0;
        private final int[] owed = new int[MOST_LIFE];
        final int[] acts = new int[MOST_LIFE];
        int most = NONE;
        private int person = NONE;
        private int length, hours, tired, sleep, purse;
        private int deep, gain, width, hoursWithDebts;

        void forget() {
            person = NONE;
            earningsKnown = 0;
        }

        void make(Town town, Moment now, int p, int n) {
            if (isMade(now, p, n)) return;
            person = p;
            length = n;
            hours = now.hours;
            tired = now.tired[p];
            sleep = now.sleep[p];
            purse = now.purse[p];
            prepareTables(town);
            countOwed(town);
            spread();
            most = mostAtEnd();
            if (most == NONE) return;
            turnToNeeds();
            walk();
        }

        private boolean isMade(Moment now, int p, int n) {
            return person == p && length == n && hours == now.hours && tired == now.tired[p]
                && sleep == now.sleep[p] && purse == now.purse[p];
        }

        private void prepareTables(Town town) {
            deep = town.deep;
            gain = town.gain;
            width = (MOST_TIRED + 1) * deep;
            if (purses.length == 0) {
                purses = new int[TABLE_SIZE];
                earnings = new int[TABLE_SIZE];
            }
            if (earningsKnown == 0) clearLastEarnings();
            while (earningsKnown < length) {
                earningsKnown++;
                learnEarnings(earningsKnown);
            }
        }

        /** With no hour left nothing is earned; an earlier town may have had other states at these places. */
        private void clearLastEarnings() {
            for (int state = 0; state < width; state++) {
                earnings[state] = 0;
            }
        }

        /** By those of one hour less. */
        private void learnEarnings(int left) {
            for (int t = 0; t <= MOST_TIRED; t++) {
                int atWork = earnings[placeAtWork(left - 1, t)];
                for (int s = 0; s < deep; s++) {
                    int asleep = t > 0 ? earned(s) + earnings[placeAsleep(left - 1, t, s)] : 0;
                    earnings[place(left, t, s)] = Math.max(atWork, asleep);
                }
            }
        }

        private void countOwed(Town town) {
            Arrays.fill(owed, 0);
            hoursWithDebts = 0;
            for (int d = 0; d < town.debtCount; d++) {
                int k = town.debtHour[d] - hours;
                if (town.debtor[d] != person || !isWithin(k, 0, length - 1)) continue;
                owed[k] += town.debtValue[d];
                hoursWithDebts = Math.max(hoursWithDebts, k + 1);
            }
        }

        private int place(int k, int t, int s) {
            return k * width + t * deep + s;
        }

        private int placeAsleep(int k, int t, int s) {
            return place(k, easedBySleep(t), longerSleep(s));
        }

        private int placeAtWork(int k, int t) {
            return place(k, tiredByWork(t), 0);
        }

        private static int easedBySleep(int t) {
            return Math.max(t - SLEEP_EASES, 0);
        }

        private static int tiredByWork(int t) {
            return Math.min(t + WORK_TIRES, MOST_TIRED);
        }

        private int longerSleep(int s) {
            return Math.min(s + 1, deep - 1);
        }

        private int earned(int s) {
            return s + 1 >= deep ? gain : 1;
        }

        private int purseAsleep(int k, int s, int q) {
            return Math.min(q + earned(s), MOST_PURSE) - owed[k];
        }

        private int leastTired(int k) {
            return Math.max(tired - SLEEP_EASES * k, 0);
        }

        private int mostTired(int k) {
            return Math.min(tired + WORK_TIRES * k, MOST_TIRED);
        }

        private void spread() {
            for (int k = 0; k <= hoursWithDebts; k++) {
                clearHour(k);
            }
            purses[place(0, tired, Math.min(sleep, deep - 1))] = purse;
            for (int k = 0; k < hoursWithDebts; k++) {
                spreadHour(k, mostTired(k));
            }
        }

        /** Clears what he can come to at hour k; nothing else of it is looked at. */
        private void clearHour(int k) {
            int last = place(k, mostTired(k), deep - 1);
            for (int state = place(k, leastTired(k), 0); state <= last; state++) {
                purses[state] = NONE;
            }
        }

        private void spreadHour(int k, int highest) {
            for (int t = leastTired(k); t <= highest; t++) {
                int first = place(k, t, 0);
                for (int s = 0; s < deep; s++) {
                    int q = purses[first + s];
                    if (q == NONE) continue;
                    if (t > 0) offer(placeAsleep(k + 1, t, s), purseAsleep(k, s, q));
                    offer(placeAtWork(k + 1, t), q - owed[k]);
                }
            }
        }

        private void offer(int place, int q) {
            // A purse below 0 is a debt that fell short; it never beats NONE.
            if (q > purses[place]) purses[place] = q;
        }

        private int mostAtEnd() {
            int best = NONE;
            int left = length - hoursWithDebts;
            int highest = mostTired(hoursWithDebts);
            for (int t = leastTired(hoursWithDebts); t <= highest; t++) {
                for (int s = 0; s < deep; s++) {
                    int q = purses[place(hoursWithDebts, t, s)];
                    if (q != NONE) best = Math.max(best, Math.min(q + earnings[place(left, t, s)], MOST_PURSE));
                }
            }
            return best;
        }

        private void turnToNeeds() {
            // What he needs now, at hour 0, is not asked: that he has enough is known.
            for (int k = hoursWithDebts - 1; k > 0; k--) {
                turnHourToNeeds(k, mostTired(k));
            }
        }

        private void turnHourToNeeds(int k, int highest) {
            for (int t = leastTired(k); t <= highest; t++) {
                int first = place(k, t, 0);
                for (int s = 0; s < deep; s++) {
                    if (purses[first + s] != NONE) purses[first + s] = needOf(k, t, s);
                }
            }
        }

        private int needOf(int k, int t, int s) {
            int atWork = needBefore(k, needAt(k + 1, tiredByWork(t), 0), 0);
            if (t == 0) return atWork;
            int asleep = needBefore(k, needAt(k + 1, easedBySleep(t), longerSleep(s)), earned(s));
            if (atWork == NONE) return asleep;
            return asleep == NONE ? atWork : Math.min(atWork, asleep);
        }

        private int needAt(int k, int t, int s) {
            if (k < hoursWithDebts) return purses[place(k, t, s)];
            return Math.max(most - earnings[place(length - k, t, s)], 0);
        }

        private int needBefore(int k, int need, int earned) {
            if (need == NONE || need + owed[k] > MOST_PURSE) return NONE;
            return Math.max(need + owed[k] - earned, 0);
        }

        private void walk() {
            int t = tired;
            int s = Math.min(sleep, deep - 1);
            int q = purse;
            for (int k = 0; k < length; k++) {
                int need = t > 0 ? needAt(k + 1, easedBySleep(t), longerSleep(s)) : NONE;
                if (need != NONE && purseAsleep(k, s, q) >= need) {
                    acts[k] = SLEEPS;
                    q = purseAsleep(k, s, q);
                    t = easedBySleep(t);
                    s = longerSleep(s);
                } else {
                    acts[k] = WORKS;
                    q -= owed[k];
                    t = tiredByWork(t);
                    s = 0;
                }
            }
        }
    }

    /** The fewest coins for each amount, by the coins of one town; found when first asked for. */
    private static final class CoinTable {
        private final boolean[] isStruck = new boolean[MOST_WORTH + 1];
        final int[] fewest = new int[MOST_CHANGE + 1];
        private final int[] withOneMore = new int[STRIKE_CHANGE + 1];
        private boolean isPrepared = false;
        private boolean isStrikeFound = false;
        int strikeWorth = NONE;
        int strikeTotal = NONE;

        void forget() {
            isPrepared = false;
            isStrikeFound = false;
        }

        void prepare(Town town) {
            if (isPrepared) return;
            isPrepared = true;
            for (int w = 1; w <= MOST_WORTH; w++) {
                isStruck[w] = w == 1;
            }
            for (int v = 0; v <= MOST_CHANGE; v++) {
                fewest[v] = v;
            }
            for (int c = 0; c < town.coinCount; c++) {
                int w = town.worth[c];
                if (isWithin(w, 1, MOST_WORTH)) addCoin(w);
            }
        }

        private void addCoin(int w) {
            isStruck[w] = true;
            for (int v = w; v <= MOST_CHANGE; v++) {
                fewest[v] = Math.min(fewest[v], fewest[v - w] + 1);
            }
        }

        /** How many of worth w are in the fewest for v, which has most of the greatest, then of the next. */
        int countOf(int w, int v) {
            if (!isWithin(w, 1, MOST_WORTH) || !isStruck[w]) return 0;
            int left = v;
            int count = 0;
            for (int x = MOST_WORTH; x >= w; x--) {
                count = isStruck[x] ? countTaken(x, left) : 0;
                left -= count * x;
            }
            return count;
        }

        private int countTaken(int x, int v) {
            int left = v;
            int count = 0;
            while (left >= x && fewest[left - x] + 1 == fewest[left]) {
                left -= x;
                count++;
            }
            return count;
        }

        void findStrike() {
            if (isStrikeFound) return;
            isStrikeFound = true;
            strikeWorth = NONE;
            for (int w = 2; w <= MOST_WORTH; w++) {
                if (isStruck[w]) continue;
                int total = totalWith(w);
                if (strikeWorth != NONE && total >= strikeTotal) continue;
                strikeWorth = w;
                strikeTotal = total;
            }
        }

        private int totalWith(int w) {
            int total = 0;
            for (int v = 1; v <= STRIKE_CHANGE; v++) {
                int best = fewest[v];
                if (v >= w) best = Math.min(best, withOneMore[v - w] + 1);
                withOneMore[v] = best;
                total += best;
            }
            return total;
        }
    }
}
