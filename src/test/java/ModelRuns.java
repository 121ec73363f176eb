import java.util.ArrayList;
import java.util.List;
import java.util.Random;

/** Long runs of calls, some wrong, on OneStepMore and on the Model: each answer is the same. */
public final class ModelRuns {
    private final Random random;
    private final OneStepMore x = new OneStepMore();
    private final Model m = new Model();
    private final List<String> calls = new ArrayList<>();
    private final int most;
    static int wrong = 0;
    static final long[] asked = new long[64];

    ModelRuns(int seed) {
        random = new Random(seed);
        most = seed % 3 == 0 ? 14 : 4;
    }

    public static void main(String[] args) {
        int runs = args.length > 0 ? Integer.parseInt(args[0]) : 90;
        int from = args.length > 1 ? Integer.parseInt(args[1]) : 0;
        for (int i = from; i < from + runs && wrong < 5; i++) {
            new ModelRuns(i).run(i);
        }
        System.out.println(wrong == 0 ? "the model agrees" : wrong + " runs differ from the model");
        if (wrong != 0) {
            System.exit(1);
        }
    }

    private int upTo(int n) {
        return random.nextInt(n + 1);
    }

    /** Mostly one of lowest .. highest, now and then one beside, or a wild one. */
    private int near(int lowest, int highest) {
        int r = random.nextInt(40);
        if (r == 0) {
            return lowest - 1;
        }
        if (r == 1) {
            return highest + 1;
        }
        if (r == 2) {
            return new int[] {Integer.MIN_VALUE, Integer.MAX_VALUE, -2, 100, random.nextInt()}[upTo(4)];
        }
        return lowest + random.nextInt(highest - lowest + 1);
    }

    private void run(int seed) {
        for (int i = 0; i < 250; i++) {
            if (!call()) {
                wrong++;
                System.out.println("run " + seed + ", call " + i + ": " + calls.get(calls.size() - 1));
                return;
            }
        }
    }

    private boolean same(String call, long got, long want) {
        calls.add(call + " answered " + got + ", the model " + want);
        return got == want;
    }

    private int number(boolean yes) {
        return yes ? 1 : 0;
    }

    private int person() {
        return near(0, Math.max(0, m.all.people.size() - 1));
    }

    private int house() {
        return near(0, 3);
    }

    private int stepOf(int house) {
        return near(1, house >= 0 && house < 4 ? m.all.houses[house].n : 3);
    }

    private int kind() {
        return near(0, 3);
    }

    private boolean call() {
        int what = random.nextInt(48);
        asked[what]++;
        int h = house();
        int s = stepOf(h);
        int p = person();
        int k = kind();
        boolean b = random.nextBoolean();
        switch (what) {
            case 0: {
                int n = near(1, most);
                return random.nextInt(3) > 0 || same("stair " + h + " " + n, number(x.stair(h, n)), number(m.stair(h, n)));
            }
            case 1: {
                int v = near(1, 9);
                return same("height", number(x.height(h, s, v)), number(m.height(h, s, v)));
            }
            case 2:
                return same("mark", number(x.mark(h, s, b)), number(m.mark(h, s, b)));
            case 3: {
                int to = near(0, 6);
                return same("rail", number(x.rail(h, to)), number(m.rail(h, to)));
            }
            case 4: {
                int none = near(0, 5);
                int twice = near(0, 5);
                int landing = near(0, 10);
                return same("person", x.person(none, twice, landing), m.person(none, twice, landing));
            }
            case 5: {
                int v = near(0, 9999);
                return same("seed", number(x.seed(v)), number(m.seed(v)));
            }
            case 6: case 7: case 8:
                return feedText();
            case 9: {
                int t = near(-1, 3);
                return same("by", number(x.by(t)), number(m.by(t)));
            }
            case 10: case 11:
                return same("begin " + p + " " + h + " " + k, x.begin(p, h, k), m.begin(p, h, k));
            case 12: case 13: case 14:
                return same("step", x.step(), m.step());
            case 15: case 16:
                return same("toe", x.toe(), m.toe());
            case 17:
                return same("stop", x.stop(), m.stop());
            case 18: {
                int n = random.nextBoolean() ? 1 : near(1, 99);
                return same("night", x.night(n), m.night(n));
            }
            case 19: case 20: {
                int t = near(0, 3);
                return same("played " + t, x.played(t), m.played(t));
            }
            case 21: {
                int seed = near(0, 9999);
                int f = near(0, 30);
                return same("week", x.week(seed, f), m.week(seed, f));
            }
            case 22: case 23: case 24:
                return same("undo", x.undo(), m.undo());
            case 25:
                return all("says", 0, 4, p, h, k, s);
            case 26: {
                int c = near(0, random.nextBoolean() ? 6 : 29);
                int t = near(0, 6);
                return same("where", x.where(p, h, k, c, t, b), m.where(p, h, k, c, t, b));
            }
            case 27: {
                int f = near(0, 30);
                return same("cost", x.cost(p, h, k, f, b), m.cost(p, h, k, f, b));
            }
            case 28:
                return same("from", x.from(p, h, k), m.from(p, h, k));
            case 29:
                return same("worth", x.worth(p, h, k), m.worth(p, h, k));
            case 30:
                return same("goes", x.goes(p, h), m.goes(p, h));
            case 31: {
                int pence = near(1, 99);
                int price = near(1, 999);
                return same("lamp", x.lamp(p, h, pence, price), m.lamp(p, h, pence, price));
            }
            case 32: {
                int c = near(0, random.nextBoolean() ? 6 : 29);
                return same("which", x.which(p, c, h, b), m.which(p, c, h, b));
            }
            case 33: {
                int c = near(0, random.nextBoolean() ? 6 : 29);
                return same("whether", x.whether(p, h, c, b), m.whether(p, h, c, b));
            }
            case 34: {
                int r = near(1, 9);
                int a = near(1, 10);
                int n = near(0, 15);
                return same("sure", x.sure(r, a, n, b), m.sure(r, a, n, b))
                    && same("average", x.average(r, a, b), m.average(r, a, b));
            }
            case 35: {
                int v = near(0, 5);
                return same("tally", x.tally(p, v), m.tally(p, v));
            }
            case 36: {
                int to = near(-1, 3);
                return same("legs", x.legs(p, to), m.legs(p, to));
            }
            case 37:
                return same("trippers", x.trippers(h, s, k), m.trippers(h, s, k));
            case 38: case 39: {
                int who = random.nextInt(12) == 0 ? -1 : p;
                return same("seen", x.seen(who, h, s, b), m.seen(who, h, s, b));
            }
            case 40:
                return same("laws", x.laws(), m.laws());
            case 41: case 42: {
                int to = random.nextBoolean() ? -1 : s;
                if (h >= 0 && h < 4 && m.all.houses[h].n > 3) {
                    return true;
                }
                return same("alike " + h + " " + to + " " + b, x.alike(h, to, b), m.alike(h, to, b));
            }
            case 43:
                return random.nextInt(3) > 0 || same("image", x.image(), m.image());
            case 44:
                return random.nextInt(3) > 0 || same("back", x.back(), m.back());
            default:
                return look();
        }
    }

    private boolean all(String name, int from, int to, int p, int h, int k, int s) {
        for (int i = from - 1; i <= to + 1; i++) {
            if (!same(name + " " + p + " " + h + " " + k + " " + s + " " + i, x.says(p, h, k, s, i), m.says(p, h, k, s, i))) {
                return false;
            }
        }
        return true;
    }

    /** All that can be asked of what stands. */
    private boolean look() {
        for (int i = -2; i < 42; i++) {
            if (!same("about " + i, x.about(i), m.about(i))) {
                return false;
            }
        }
        for (int i = -2; i < 10; i++) {
            if (!same("way " + i, x.way(i), m.way(i)) || !same("fault " + i, x.fault(i), m.fault(i))) {
                return false;
            }
        }
        for (int h = -1; h < 5; h++) {
            for (int i = -1; i < 27; i++) {
                if (!same("house " + h + " " + i, x.house(h, i), m.house(h, i))) {
                    return false;
                }
            }
        }
        for (int i = -2; i < 42; i++) {
            for (int k = -1; k < 9; k++) {
                if (!same("book " + i + " " + k, x.book(i, k), m.book(i, k))) {
                    return false;
                }
            }
        }
        return true;
    }

    private boolean feedText() {
        byte[] bytes = new byte[300];
        String text = new Writer(random).text();
        int length = Math.min(300, text.length());
        for (int i = 0; i < length; i++) {
            bytes[i] = (byte) text.charAt(i);
        }
        if (random.nextInt(30) > 0 && (!same("end", x.end(0), m.end(0)))) {
            return false;
        }
        for (int i = 0; i < length; i += 20) {
            int[] w = new int[5];
            for (int k = 0; k < 20; k++) {
                w[k / 4] |= (bytes[i + k] & 255) << (24 - k % 4 * 8);
            }
            if (!same("feed", x.feed(w[0], w[1], w[2], w[3], w[4]), m.feed(w[0], w[1], w[2], w[3], w[4]))) {
                return false;
            }
        }
        return same("end", x.end(length), m.end(length)) && same("text " + text, x.text(), m.text())
            && same("fault of " + text, x.fault(0), m.fault(0)) && same("place of " + text, x.fault(1), m.fault(1));
    }
}
