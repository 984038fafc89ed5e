import java.util.ArrayList;
import java.util.HashMap;
import java.util.List;
import java.util.Map;

/**
 * The document once more, written as plainly and wastefully as can be: everything tried is tried by trying all.
 * Random runs are held against it.
 */
final class PlainModel {
    static final int NONE = -1, UNKNOWN = -1000000001, OUTSIDE = -1000000002, NOT = -1000000003, FULL = -1000000004;

    static final class Human {
        int tired, purse, sleep, yawn = 1;
        boolean yawnTold;
        char[] row = new char[24];

        Human copy() {
            Human h = new Human();
            h.tired = tired;
            h.purse = purse;
            h.sleep = sleep;
            h.yawn = yawn;
            h.yawnTold = yawnTold;
            h.row = row.clone();
            return h;
        }
    }

    static final class Owed {
        int who, hour, value;
    }

    static final class World {
        List<Human> people = new ArrayList<>();
        int[] called = new int[8];
        int hours;
        long seed;

        World copy() {
            World w = new World();
            for (Human h : people) w.people.add(h.copy());
            w.called = called.clone();
            w.hours = hours;
            w.seed = seed;
            return w;
        }
    }

    /** A fault of the text: thrown, so that the reading ends there. */
    private static final class Fault extends RuntimeException {
        private static final long serialVersionUID = 1L;
        final int kind, place;

        Fault(int kind, int place) {
            this.kind = kind;
            this.place = place;
        }
    }

    private String text = "";
    private int faultPlace = NONE;
    private int beds, deep, gain;
    private List<Integer> worths = new ArrayList<>();
    private List<Owed> debts = new ArrayList<>();
    private World world = new World();
    private World[] images = new World[2];
    private List<int[]> book = new ArrayList<>();

    // ---- the capital

    int feed(int letter) {
        if (letter < 0 || letter > 255) return OUTSIDE;
        if (text.length() == 250) return FULL;
        text += (char) letter;
        return text.length();
    }

    int capital() {
        String told = text;
        text = "";
        PlainModel next = new PlainModel();
        try {
            next.parse(told);
        } catch (Fault f) {
            faultPlace = f.place;
            return -10 - f.kind;
        }
        faultPlace = NONE;
        beds = next.beds;
        deep = next.deep;
        gain = next.gain;
        worths = next.worths;
        debts = next.debts;
        next.world.seed = world.seed;
        world = next.world;
        images = new World[2];
        book.clear();
        return world.people.size();
    }

    private static final Map<Character, String> SHAPES = Map.of(
        'm', "BDG;", 'p', "TQR;", 'c', "W;", 'd', "PHV;", 'u', "UY;");

    private void parse(String s) {
        int i = 0;
        while (true) {
            i = skip(s, i);
            if (i == s.length()) return;
            char word = s.charAt(i);
            String shape = SHAPES.get(word);
            if (shape == null || (beds == 0 && word != 'm')) throw new Fault(1, i);
            boolean tooMany = word == 'm' && beds != 0 || word == 'p' && world.people.size() == 5
                || word == 'c' && worths.size() == 4 || word == 'd' && debts.size() == 8;
            if (tooMany) throw new Fault(3, i);
            i++;
            Map<Character, Integer> got = new HashMap<>();
            char[] row = new char[24];
            for (char field : shape.toCharArray()) {
                i = skip(s, i);
                if (field == ';') {
                    if (i == s.length() || s.charAt(i) != ';') throw new Fault(1, i);
                    i++;
                } else if (field == 'R') {
                    for (int k = 0; k < 24; k++) {
                        i = skip(s, i);
                        if (i == s.length() || "zw.".indexOf(s.charAt(i)) < 0) throw new Fault(1, i);
                        row[k] = s.charAt(i++);
                    }
                } else {
                    i = number(s, i, field, got);
                }
            }
            take(word, got, row);
        }
    }

    private static int skip(String s, int from) {
        int i = from;
        while (i < s.length() && s.charAt(i) == ' ') i++;
        return i;
    }

    private int number(String s, int from, char field, Map<Character, Integer> got) {
        int to = from;
        while (to < s.length() && s.charAt(to) >= '0' && s.charAt(to) <= '9') to++;
        if (to == from) throw new Fault(1, from);
        if (to - from > 3) throw new Fault(2, from);
        int v = Integer.parseInt(s.substring(from, to));
        int last = world.people.size() - 1;
        int[] bounds = switch (field) {
            case 'B' -> new int[] {1, 5};
            case 'D' -> new int[] {2, 9};
            case 'G' -> new int[] {1, 9};
            case 'T' -> new int[] {0, 60};
            case 'Q' -> new int[] {0, 99};
            case 'W' -> new int[] {2, 60};
            case 'H' -> new int[] {0, 71};
            case 'V' -> new int[] {1, 99};
            case 'Y' -> new int[] {1, 20};
            default -> new int[] {0, last};
        };
        if (v < bounds[0] || v > bounds[1]) throw new Fault(2, from);
        if (field == 'W' && worths.contains(v)) throw new Fault(4, from);
        if (field == 'U' && world.people.get(v).yawnTold) throw new Fault(4, from);
        got.put(field, v);
        return to;
    }

    private void take(char word, Map<Character, Integer> got, char[] row) {
        if (word == 'm') {
            beds = got.get('B');
            deep = got.get('D');
            gain = got.get('G');
        } else if (word == 'p') {
            Human h = new Human();
            h.tired = got.get('T');
            h.purse = got.get('Q');
            h.row = row;
            world.people.add(h);
        } else if (word == 'c') {
            worths.add(got.get('W'));
        } else if (word == 'd') {
            Owed o = new Owed();
            o.who = got.get('P');
            o.hour = got.get('H');
            o.value = got.get('V');
            debts.add(o);
        } else {
            Human h = world.people.get(got.get('U'));
            h.yawn = got.get('Y');
            h.yawnTold = true;
        }
    }

    int fault() {
        return faultPlace;
    }

    int told(int what) {
        int paid = 0;
        int missed = 0;
        int asleep = 0;
        for (int d = 0; d < 8; d++) {
            if (world.called[d] == 1) paid += 1 << d;
            if (world.called[d] == 2) missed += 1 << d;
        }
        for (int p = 0; p < world.people.size(); p++) {
            if (world.people.get(p).sleep > 0) asleep += 1 << p;
        }
        int[] all = {beds, deep, gain, world.people.size(), worths.size(), debts.size(), text.length(), world.hours,
            paid, missed, asleep, book.size()};
        return what < 0 || what >= all.length ? OUTSIDE : all[what];
    }

    private boolean isHuman(int p) {
        return p >= 0 && p < world.people.size();
    }

    int person(int p, int what) {
        if (!isHuman(p)) return UNKNOWN;
        Human h = world.people.get(p);
        int[] all = {h.tired, h.purse, h.sleep, h.yawn};
        return what < 0 || what >= 4 ? OUTSIDE : all[what];
    }

    int row(int p, int h) {
        if (!isHuman(p)) return UNKNOWN;
        if (h < 0 || h > 23) return OUTSIDE;
        return "zw.".indexOf(world.people.get(p).row[h]);
    }

    int coin(int c) {
        return c < 0 || c >= worths.size() ? UNKNOWN : worths.get(c);
    }

    int debt(int d, int what) {
        if (d < 0 || d >= debts.size()) return UNKNOWN;
        Owed o = debts.get(d);
        int[] all = {o.who, o.hour, o.value, world.called[d]};
        return what < 0 || what >= 4 ? OUTSIDE : all[what];
    }

    // ---- what is done

    private void pass(World w) {
        int lying = 0;
        for (Human h : w.people) {
            char does = h.row[w.hours % 24];
            if (does == 'z' && h.tired > 0 && beds - lying > 0) {
                lying++;
                h.sleep++;
                h.tired -= 4;
                if (h.tired < 0) h.tired = 0;
                h.purse += h.sleep >= deep ? gain : 1;
                if (h.purse > 9999) h.purse = 9999;
            } else {
                h.sleep = 0;
                h.tired += does == 'w' ? 3 : 1;
                if (h.tired > 99) h.tired = 99;
            }
        }
        for (int d = 0; d < debts.size(); d++) {
            Owed o = debts.get(d);
            if (o.hour != w.hours) continue;
            Human h = w.people.get(o.who);
            w.called[d] = h.purse >= o.value ? 1 : 2;
            if (h.purse >= o.value) h.purse -= o.value;
        }
        w.hours++;
    }

    int hour(int n) {
        if (n < 1 || n > 96) return OUTSIDE;
        if (beds == 0) return NOT;
        for (int k = 0; k < n; k++) pass(world);
        return world.hours;
    }

    private int draw(int n) {
        world.seed = (world.seed * 1103515245L + 12345L) % 2147483648L;
        return (int) (world.seed / 65536L % n);
    }

    int drift(int n) {
        if (n < 1 || n > 96) return OUTSIDE;
        if (beds == 0) return NOT;
        for (int k = 0; k < n; k++) {
            if (draw(6) == 0 && !world.people.isEmpty()) {
                Human h = world.people.get(draw(world.people.size()));
                h.sleep = 0;
                h.tired = Math.min(99, h.tired + 5);
            }
            pass(world);
        }
        return world.hours;
    }

    int give(int a, int b, int v) {
        if (!isHuman(a) || !isHuman(b) || a == b) return UNKNOWN;
        if (v < 1 || v > 999) return OUTSIDE;
        Human from = world.people.get(a);
        Human to = world.people.get(b);
        if (from.purse < v) return NOT;
        from.purse -= v;
        to.purse = Math.min(9999, to.purse + v);
        return from.purse;
    }

    int change(int p, int h, int what) {
        if (!isHuman(p)) return UNKNOWN;
        if (h < 0 || h > 23 || what < 0 || what > 2) return OUTSIDE;
        int was = row(p, h);
        world.people.get(p).row[h] = "zw.".charAt(what);
        return was;
    }

    // ---- tried

    int firstShort(int what) {
        if (what < 0 || what > 1) return OUTSIDE;
        World w = world.copy();
        for (int k = 0; k < 80; k++) {
            w.called = new int[8];
            pass(w);
            for (int d = 0; d < 8; d++) {
                if (w.called[d] == 2) return what == 0 ? d : debts.get(d).hour;
            }
        }
        return NONE;
    }

    int richest(int n, int what) {
        if (n < 0 || n > 200 || what < 0 || what > 1) return OUTSIDE;
        World w = world.copy();
        for (int k = 0; k < n; k++) pass(w);
        int who = NONE;
        int most = NONE;
        for (int p = 0; p < w.people.size(); p++) {
            if (w.people.get(p).purse > most) {
                who = p;
                most = w.people.get(p).purse;
            }
        }
        return what == 0 ? who : most;
    }

    int life(int p, int n, int i) {
        if (!isHuman(p)) return UNKNOWN;
        if (n < 1 || n > 48 || i < -1 || i >= n) return OUTSIDE;
        Human h = world.people.get(p);
        Map<Long, Integer> known = new HashMap<>();
        int best = bestLife(known, p, n, new int[] {0, h.tired, h.sleep, h.purse});
        if (best == NONE || i == NONE) return best;
        int[] at = {0, h.tired, h.sleep, h.purse};
        int act = NONE;
        for (int k = 0; k <= i; k++) {
            for (act = 0; act < 3; act++) {
                int[] next = live(p, at, act);
                if (next != null && bestLife(known, p, n, next) == best) {
                    at = next;
                    break;
                }
            }
        }
        return act;
    }

    private int bestLife(Map<Long, Integer> known, int p, int n, int[] at) {
        if (at[0] == n) return at[3];
        long key = ((at[0] * 100L + at[1]) * 100000L + at[2]) * 10000L + at[3];
        Integer was = known.get(key);
        if (was != null) return was;
        int best = NONE;
        for (int act = 0; act < 3; act++) {
            int[] next = live(p, at, act);
            if (next != null) best = Math.max(best, bestLife(known, p, n, next));
        }
        known.put(key, best);
        return best;
    }

    /** One hour of a life: which it is, how tired, how long asleep, how much; null if it cannot be, or falls short. */
    private int[] live(int p, int[] at, int act) {
        int tired = at[1];
        int sleep = 0;
        int purse = at[3];
        if (act == 0) {
            if (tired == 0) return null;
            sleep = at[2] + 1;
            tired = Math.max(0, tired - 4);
            purse = Math.min(9999, purse + (sleep >= deep ? gain : 1));
        } else {
            tired = Math.min(99, tired + (act == 1 ? 3 : 1));
        }
        for (Owed o : debts) {
            if (o.who != p || o.hour != world.hours + at[0]) continue;
            if (purse < o.value) return null;
            purse -= o.value;
        }
        return new int[] {at[0] + 1, tired, sleep, purse};
    }

    int shift(int l, int p) {
        if (!isHuman(p)) return UNKNOWN;
        if (l < 1 || l > 12) return OUTSIDE;
        int[] begins = new int[world.people.size()];
        return lay(l, 0, begins, new int[24]) ? begins[p] : NONE;
    }

    private boolean lay(int l, int p, int[] begins, int[] lying) {
        if (p == begins.length) return true;
        for (int b = 0; b <= 24 - l; b++) {
            boolean fits = true;
            for (int h = b; h < b + l; h++) fits &= lying[h] < beds;
            if (!fits) continue;
            for (int h = b; h < b + l; h++) lying[h]++;
            begins[p] = b;
            if (lay(l, p + 1, begins, lying)) return true;
            for (int h = b; h < b + l; h++) lying[h]--;
        }
        return false;
    }

    /** Worths from the greatest down, the 1 last. */
    private List<Integer> allWorths(int extra) {
        List<Integer> all = new ArrayList<>(worths);
        if (extra > 0) all.add(extra);
        all.add(1);
        all.sort((a, b) -> b - a);
        return all;
    }

    /** The fewest for v, with how many of each worth; of like ones the first that is found has most of the greatest. */
    private int[] pay(List<Integer> all, int from, int v) {
        int w = all.get(from);
        if (w == 1) return new int[] {v, v};
        int[] best = null;
        for (int k = v / w; k >= 0; k--) {
            int[] rest = pay(all, from + 1, v - k * w);
            if (best != null && rest[0] + k >= best[0]) continue;
            best = new int[rest.length + 1];
            best[0] = rest[0] + k;
            best[1] = k;
            System.arraycopy(rest, 1, best, 2, rest.length - 1);
        }
        return best;
    }

    int coins(int v, int w) {
        if (v < 0 || v > 200 || w != NONE && (w < 1 || w > 60)) return OUTSIDE;
        List<Integer> all = allWorths(0);
        int[] best = pay(all, 0, v);
        if (w == NONE) return best[0];
        return all.contains(w) ? best[1 + all.indexOf(w)] : 0;
    }

    int strike(int what) {
        if (what < 0 || what > 1) return OUTSIDE;
        int worth = NONE;
        int fewest = Integer.MAX_VALUE;
        for (int w = 2; w <= 60; w++) {
            if (worths.contains(w)) continue;
            int total = 0;
            for (int v = 1; v <= 60; v++) total += pay(allWorths(w), 0, v)[0];
            if (total < fewest) {
                fewest = total;
                worth = w;
            }
        }
        return what == 0 ? worth : fewest;
    }

    int isFalse(int p, int a, int b, int n, int k) {
        for (int x : new int[] {p, a, b}) {
            if (x < 0 || x > 100) return OUTSIDE;
        }
        if (n < 0 || n > 9 || k < 0 || k > n) return OUTSIDE;
        long bad = 1000000000L * p / 100;
        long good = 1000000000L * (100 - p) / 100;
        for (int t = 0; t < k; t++) {
            bad = bad * a / 100;
            good = good * b / 100;
        }
        for (int t = k; t < n; t++) {
            bad = bad * (100 - a) / 100;
            good = good * (100 - b) / 100;
        }
        return bad + good == 0 ? 0 : (int) (bad * 1000000L / (bad + good));
    }

    int prices(int x, int f, int g, int what) {
        if (x < 0 || x > 9999 || f < 0 || f > 300 || g < 0 || g > 99 || what < 0 || what > 1) return OUTSIDE;
        List<Integer> all = new ArrayList<>();
        all.add(x);
        for (int r = 0; r <= 500; r++) {
            int price = all.get(r);
            if (price > 99999) return NONE;
            all.add(price * f / 100 + g);
            if (all.get(r + 1) == price) return what == 0 ? r : price;
        }
        return NONE;
    }

    int robbed(int yawning, int v, int what) {
        int all = 1 << world.people.size();
        if (yawning < 0 || yawning >= all) return UNKNOWN;
        if (v < 0 || v > 999 || what < 0 || what > 2) return OUTSIDE;
        List<Integer> fits = new ArrayList<>();
        for (int set = 0; set < all; set++) {
            int sum = 0;
            boolean has = true;
            for (int p = 0; p < world.people.size(); p++) {
                boolean in = (set & 1 << p) != 0;
                if (in) sum += world.people.get(p).yawn;
                if (!in && (yawning & 1 << p) != 0) has = false;
            }
            if (has && sum == v) fits.add(set);
        }
        if (what == 0) return fits.size();
        if (fits.isEmpty()) return what == 1 ? NONE : 0;
        if (what == 1) return fits.get(0);
        int sure = fits.get(0);
        for (int set : fits) sure &= set;
        return sure;
    }

    int run(int r, int what) {
        if (r < 0 || r > 999 || what < 0 || what > 1) return OUTSIDE;
        List<Integer> out = new ArrayList<>();
        int unpaid = 0;
        int left = r;
        boolean moved = true;
        while (moved) {
            moved = false;
            for (int p = 0; p < world.people.size() && !moved; p++) {
                Human h = world.people.get(p);
                if (out.contains(p) || out.size() < h.tired / 10) continue;
                out.add(p);
                moved = true;
                if (left < h.purse) unpaid += 1 << p;
                left = left < h.purse ? 0 : left - h.purse;
            }
        }
        int set = 0;
        for (int p : out) set += 1 << p;
        return what == 0 ? set : unpaid;
    }

    // ---- books, images

    int write(int p, int v) {
        if (!isHuman(p)) return UNKNOWN;
        if (v < 0 || v > 9999) return OUTSIDE;
        if (book.size() == 15) return FULL;
        book.add(new int[] {p, v});
        return book.size();
    }

    int tear() {
        int had = book.size();
        book.clear();
        return had;
    }

    int judge() {
        for (int e = 0; e < book.size(); e++) {
            if (world.people.get(book.get(e)[0]).purse != book.get(e)[1]) return e;
        }
        return NONE;
    }

    int seed(int v) {
        if (v < 0) return OUTSIDE;
        int was = (int) world.seed;
        world.seed = v;
        return was;
    }

    int keep(int i) {
        if (i < 0 || i > 1) return UNKNOWN;
        images[i] = world.copy();
        return 1;
    }

    int goBack(int i) {
        if (i < 0 || i > 1) return UNKNOWN;
        if (images[i] == null) return NOT;
        world = images[i].copy();
        return 1;
    }
}
