import java.util.Random;

/** Random runs of calls, each answer held against the plain model's; the draws are the same each time. */
public final class RandomRunsTest {
    private final Random random;
    private final SleepMint mint = new SleepMint();
    private final PlainModel model = new PlainModel();
    private final StringBuilder said = new StringBuilder();

    private RandomRunsTest(long seed) {
        random = new Random(seed);
    }

    public static void main(String[] args) {
        int runs = args.length > 0 ? Integer.parseInt(args[0]) : 600;
        for (int r = 0; r < runs && Check.wrongSoFar() == 0; r++) {
            RandomRunsTest run = new RandomRunsTest(r);
            run.go();
            if (Check.wrongSoFar() != 0) System.out.println("run " + r + ": " + run.said);
        }
        Check.end();
    }

    private int draw(int low, int high) {
        return low + random.nextInt(high - low + 1);
    }

    /** Mostly within the bounds, at times at or past them. */
    private int about(int low, int high) {
        switch (random.nextInt(12)) {
            case 0: return low;
            case 1: return high;
            case 2: return low - 1;
            case 3: return random.nextInt(4) == 0 ? random.nextInt() : high + 1;
            default: return draw(low, high);
        }
    }

    private int human() {
        return about(0, Math.max(0, model.told(3) - 1));
    }

    private void due(String call, int got, int want) {
        said.append(call).append(' ');
        Check.due(call, got, want);
    }

    private void go() {
        if (random.nextInt(20) != 0) tellTown();
        int calls = draw(20, 120);
        for (int c = 0; c < calls && Check.wrongSoFar() == 0; c++) {
            if (random.nextInt(60) == 0) tellTown();
            else one(random.nextInt(30));
        }
        seeAll();
    }

    private void tellTown() {
        String text = randomTown();
        if (random.nextInt(3) == 0) text = spoil(text);
        for (int i = 0; i < text.length(); i++) {
            Check.due("feed", mint.feed(text.charAt(i)), model.feed(text.charAt(i)));
        }
        due("capital of '" + text + "'", mint.capital(), model.capital());
        due("fault", mint.fault(), model.fault());
        seeAll();
    }

    private String randomTown() {
        StringBuilder s = new StringBuilder();
        s.append('m').append(draw(1, 5)).append(' ').append(draw(2, 9)).append(' ').append(draw(1, 9)).append(';');
        int people = draw(0, 5);
        for (int p = 0; p < people; p++) {
            s.append('p').append(draw(0, 60)).append(' ').append(draw(0, 99)).append(random.nextBoolean() ? " " : "");
            int start = random.nextInt(24);
            int lying = draw(0, 20);
            for (int h = 0; h < 24; h++) {
                boolean lies = (h + start) % 24 < lying;
                s.append(lies ? 'z' : random.nextBoolean() ? 'w' : '.');
            }
            s.append(';');
        }
        int more = draw(0, 10);
        for (int k = 0; k < more; k++) {
            int kind = random.nextInt(5);
            if (kind == 0) s.append('c').append(draw(2, 60)).append(';');
            else if (kind == 1) s.append('u').append(draw(0, Math.max(0, people - 1))).append(' ').append(draw(1, 20)).append(';');
            else s.append('d').append(draw(0, Math.max(0, people - 1))).append(' ').append(draw(0, random.nextBoolean() ? 71 : 20)).append(' ').append(draw(1, random.nextBoolean() ? 99 : 15)).append(';');
        }
        return s.toString();
    }

    private String spoil(String text) {
        StringBuilder s = new StringBuilder(text);
        String letters = "mpcdu;; z.w0123456789x\t";
        int times = draw(1, 2);
        for (int k = 0; k < times && s.length() > 0; k++) {
            int at = random.nextInt(s.length());
            char letter = letters.charAt(random.nextInt(letters.length()));
            switch (random.nextInt(5)) {
                case 0: s.deleteCharAt(at); break;
                case 1: s.setCharAt(at, letter); break;
                case 2: s.insert(at, letter); break;
                case 3: s.setLength(at); break;
                default: s.insert(at, ' ');
            }
        }
        return s.toString();
    }

    private void one(int which) {
        int w = about(0, 1);
        int p = human();
        int n;
        int k;
        switch (which) {
            case 0: n = about(0, 255); due("feed " + n, mint.feed(n), model.feed(n)); break;
            case 1: n = about(0, 11); due("told " + n, mint.told(n), model.told(n)); break;
            case 2: n = about(0, 3); due("person " + p + " " + n, mint.person(p, n), model.person(p, n)); break;
            case 3: n = about(0, 23); due("row " + p + " " + n, mint.row(p, n), model.row(p, n)); break;
            case 4: n = about(0, 3); due("coin " + n, mint.coin(n), model.coin(n)); break;
            case 5: n = about(0, 7); k = about(0, 3); due("debt " + n + " " + k, mint.debt(n, k), model.debt(n, k)); break;
            case 6: n = about(1, random.nextBoolean() ? 5 : 96); due("hour " + n, mint.hour(n), model.hour(n)); break;
            case 7: n = about(1, random.nextBoolean() ? 5 : 96); due("drift " + n, mint.drift(n), model.drift(n)); break;
            case 8: n = about(1, random.nextBoolean() ? 20 : 999); k = human();
                due("give " + p + " " + k + " " + n, mint.give(p, k, n), model.give(p, k, n)); break;
            case 9: n = about(0, 23); k = about(0, 2);
                due("change " + p + " " + n + " " + k, mint.change(p, n, k), model.change(p, n, k)); break;
            case 10: due("firstShort " + w, mint.firstShort(w), model.firstShort(w)); break;
            case 11: n = about(0, 200); due("richest " + n + " " + w, mint.richest(n, w), model.richest(n, w)); break;
            case 12: case 13: case 14: lives(p); break;
            case 15: n = about(1, 12); due("shift " + n + " " + p, mint.shift(n, p), model.shift(n, p)); break;
            case 16: n = about(0, 200); k = coinWorth();
                due("coins " + n + " " + k, mint.coins(n, k), model.coins(n, k)); break;
            case 17: n = about(0, 60); k = coinWorth();
                due("coins " + n + " " + k, mint.coins(n, k), model.coins(n, k)); break;
            case 18: if (model.told(4) < 3) due("strike " + w, mint.strike(w), model.strike(w)); break;
            case 19: testCoin(); break;
            case 20: n = about(0, 9999); k = about(0, random.nextBoolean() ? 99 : 300); int g = about(0, 99);
                due("prices " + n + " " + k + " " + g + " " + w, mint.prices(n, k, g, w), model.prices(n, k, g, w)); break;
            case 21: n = random.nextInt(1 << Math.max(0, model.told(3))) & random.nextInt(32); k = about(0, random.nextBoolean() ? 30 : 999);
                if (random.nextInt(8) == 0) n = about(0, 31);
                int what = about(0, 2);
                due("robbed " + n + " " + k + " " + what, mint.robbed(n, k, what), model.robbed(n, k, what)); break;
            case 22: n = about(0, 999); due("run " + n + " " + w, mint.run(n, w), model.run(n, w)); break;
            case 23: n = random.nextBoolean() && model.person(p, 1) >= 0 ? model.person(p, 1) : about(0, 9999);
                due("write " + p + " " + n, mint.write(p, n), model.write(p, n)); break;
            case 24: if (random.nextInt(5) == 0) due("tear", mint.tear(), model.tear()); break;
            case 25: due("judge", mint.judge(), model.judge()); break;
            case 26: n = random.nextInt(); due("seed " + n, mint.seed(n), model.seed(n)); break;
            case 27: n = about(0, 1); due("keep " + n, mint.keep(n), model.keep(n)); break;
            case 28: n = about(0, 1); due("goBack " + n, mint.goBack(n), model.goBack(n)); seeAll(); break;
            default: if (random.nextInt(15) == 0) due("capital", mint.capital(), model.capital());
        }
    }

    private int coinWorth() {
        if (random.nextInt(3) == 0) return about(-1, 60);
        int c = random.nextInt(5);
        return c < model.told(4) ? model.coin(c) : c == 4 ? -1 : 1;
    }

    private void testCoin() {
        int p = about(0, 100);
        int a = about(0, 100);
        int b = about(0, 100);
        int n = about(0, 9);
        int k = about(0, Math.max(0, Math.min(n, 9)));
        due("isFalse " + p + " " + a + " " + b + " " + n + " " + k, mint.isFalse(p, a, b, n, k), model.isFalse(p, a, b, n, k));
    }

    private void lives(int p) {
        int n = random.nextInt(15) == 0 ? about(1, 48) : draw(1, 14);
        // The model tries all: it cannot go through long lives in good time.
        boolean tooLong = n > 14 && n <= 48;
        if (tooLong) n = 14;
        due("life " + p + " " + n, mint.life(p, n, -1), model.life(p, n, -1));
        for (int k = 0; k < 3; k++) {
            int last = Math.max(0, Math.min(n, 48) - 1);
            int i = random.nextInt(6) == 0 ? about(-1, last) : draw(0, last);
            due("life " + p + " " + n + " " + i, mint.life(p, n, i), model.life(p, n, i));
        }
    }

    private void seeAll() {
        for (int what = 0; what < 12; what++) Check.due("told " + what, mint.told(what), model.told(what));
        for (int p = 0; p < 6; p++) {
            for (int what = 0; what < 4; what++) Check.due("person " + p + " " + what, mint.person(p, what), model.person(p, what));
            for (int h = 0; h < 24; h++) Check.due("row " + p + " " + h, mint.row(p, h), model.row(p, h));
        }
        for (int d = 0; d < 8; d++) {
            for (int what = 0; what < 4; what++) Check.due("debt " + d + " " + what, mint.debt(d, what), model.debt(d, what));
        }
        for (int c = 0; c < 4; c++) Check.due("coin " + c, mint.coin(c), model.coin(c));
    }
}
