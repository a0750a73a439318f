import java.util.Arrays;
import java.util.Random;

/**
 * Shops by a fixed chance with six to nine works and all ten things, which are too many for most of Plain: here every
 * lawful order is tried one by one, and in a room every stretch between two works that need a thing is kept open or not.
 */
public final class FullShopsTest {
    private static final int SHOPS = 120, THINGS = 10, FAR = 1 << 20;

    private final Check check = new Check();
    private final Random chance = new Random(8);
    private final int[] needs = new int[9];
    private final int[] size = new int[THINGS];
    private final int[] price = new int[THINGS];
    private int[] befores;
    private int works;
    private int[] lawfulRow;
    private OpenPots x;
    private Plain y;

    private final int[] tried = new int[9];
    private final int[] best = new int[9];
    private int bestMost;
    private int bestLong;

    private final int[] load = new int[9];
    private int[][] stretches;
    private int leastPrice;

    public static void main(String[] args) {
        FullShopsTest test = new FullShopsTest();
        for (int shop = 0; shop < SHOPS; shop++) {
            test.make(shop);
            test.orders();
            test.whatMakesItWide();
            test.rooms();
            test.likePlain();
            if (test.works < 9 || shop % 12 == 3) {
                test.tables();
            }
        }
        test.lastWorkAtTheFirstTable("chij", "", "", "bcfgh", "", "aefgj", "adfgi", "", "bcdj");
        test.lastWorkAtTheFirstTable("abj", "", "", "", "beij", "fhij", "eghi", "aefi", "abh");
        test.check.end();
    }

    private void due(String call, long got, long want) {
        check.due(call + " of " + Arrays.toString(needs) + " behind " + Arrays.toString(befores), got, want);
    }

    // ---- a shop

    private void make(int shop) {
        works = 6 + shop % 4;
        x = new OpenPots();
        y = new Plain();
        befores = new int[9];
        Arrays.fill(needs, 0);
        int often = 1 + chance.nextInt(5);
        for (int w = 0; w < works; w++) {
            for (int t = 0; t < THINGS; t++) {
                needs[w] |= chance.nextInt(10) < often ? 1 << t : 0;
            }
            due("work", x.work(needs[w], 0), y.work(needs[w], 0));
        }
        makeThings(chance.nextInt(3));
        makeBefores(chance.nextInt(4));
    }

    private void makeThings(int unlike) {
        for (int t = 0; t < THINGS; t++) {
            size[t] = 1 + chance.nextInt(1 + 4 * unlike);
            price[t] = chance.nextInt(chance.nextBoolean() ? 3 : 100);
            due("thing", x.thing(t, 0, size[t]), y.thing(t, 0, size[t]));
            due("thing", x.thing(t, 1, price[t]), y.thing(t, 1, price[t]));
        }
    }

    /** All along one row, which so is lawful. */
    private void makeBefores(int often) {
        lawfulRow = new int[works];
        for (int k = 0; k < works; k++) {
            int at = chance.nextInt(k + 1);
            lawfulRow[k] = lawfulRow[at];
            lawfulRow[at] = k;
        }
        for (int k = 0; k < works; k++) {
            for (int l = k + 1; l < works; l++) {
                if (chance.nextInt(10) < often) {
                    befores[lawfulRow[l]] |= 1 << lawfulRow[k];
                    due("before", x.before(lawfulRow[k], lawfulRow[l], true), y.before(lawfulRow[k], lawfulRow[l], true));
                }
            }
        }
        x.sheet(0, 1, works);
        y.sheet(0, 1, works);
        for (int k = 0; k < works; k++) {
            x.put(0, k, lawfulRow[k]);
            y.put(0, k, lawfulRow[k]);
        }
        due("order", x.order(1, 0, 1, 0, works), 0);
        due("order", y.order(1, 0, 1, 0, works), 0);
    }

    private int all() {
        return (1 << works) - 1;
    }

    // ---- every order

    private void tryAll(int set, int begun, int[] ahead) {
        bestMost = FAR;
        bestLong = FAR;
        int done = 0;
        for (int k = 0; k < begun; k++) {
            tried[k] = lawfulRow[k];
            done |= 1 << lawfulRow[k];
        }
        tryOn(begun, set, done, begun, ahead);
    }

    private void tryOn(int length, int set, int done, int begun, int[] ahead) {
        if (done == set) {
            weigh(length, begun);
        }
        for (int w = 0; w < works; w++) {
            if (((set & ~done) >> w & 1) != 0 && (ahead[w] & set & ~done) == 0) {
                tried[length] = w;
                tryOn(length + 1, set, done | 1 << w, begun, ahead);
            }
        }
    }

    /** Rows come in their order, so that of like ones the first stays. */
    private void weigh(int length, int begun) {
        int most = 0;
        int sum = 0;
        int[] wide = new int[length];
        for (int t = 0; t < THINGS; t++) {
            int first = length;
            int last = -1;
            for (int k = 0; k < length; k++) {
                if ((needs[tried[k]] >> t & 1) != 0) {
                    first = Math.min(first, k);
                    last = k;
                }
            }
            for (int k = first; k <= last; k++) {
                wide[k] += size[t];
            }
        }
        for (int k = begun; k < length; k++) {
            most = Math.max(most, wide[k]);
            sum += wide[k];
        }
        if (most < bestMost || most == bestMost && sum < bestLong) {
            bestMost = most;
            bestLong = sum;
            System.arraycopy(tried, 0, best, 0, length);
        }
    }

    private void orders() {
        for (int k = works; k >= 0; k--) {
            tryAll(all(), k, befores);
            due("from(0, " + k + ", 0)", x.from(0, k, 0), bestMost);
            due("from(0, " + k + ", 1)", x.from(0, k, 1), bestLong);
            due("from(0, " + k + ", 2)", x.from(0, k, 2), k == works ? OpenPots.NONE : best[k]);
        }
        due("best(0)", x.best(0), bestMost);
        due("best(1)", x.best(1), bestLong);
        for (int k = 0; k < works; k++) {
            due("best(" + (10 + k) + ")", x.best(10 + k), best[k]);
        }
        due("bound() above MOST", x.bound() > bestMost ? 1 : 0, 0);
    }

    private void whatMakesItWide() {
        int widest = OpenPots.NONE;
        int least = FAR;
        for (int w = 0; w < works; w++) {
            tryAll(all() & ~(1 << w), 0, befores);
            due("without(" + w + ")", x.without(w), bestMost);
            if (bestMost < least) {
                least = bestMost;
                widest = w;
            }
            int other = chance.nextInt(works);
            if ((befores[other] >> w & 1) != 0) {
                int[] fewer = befores.clone();
                fewer[other] &= ~(1 << w);
                tryAll(all(), 0, fewer);
                due("why(" + w + ", " + other + ")", x.why(w, other), bestMost);
            }
        }
        due("widest()", x.widest(), widest);
    }

    private void tables() {
        int[] mosts = new int[all() + 1];
        for (int set = 0; set <= all(); set++) {
            tryAll(set, 0, befores);
            mosts[set] = bestMost;
        }
        int first = 1;
        for (int set = 3; set <= all(); set += 2) {
            if (Math.max(mosts[set], mosts[all() & ~set]) < Math.max(mosts[first], mosts[all() & ~first])) {
                first = set;
            }
        }
        due("two(0)", x.two(0), Math.max(mosts[first], mosts[all() & ~first]));
        due("two(1)", x.two(1), first);
        due("two(2)", x.two(2), mosts[first]);
        due("two(3)", x.two(3), mosts[all() & ~first]);
    }

    /** By chance alone the least set hardly ever is so great a number. */
    private void lastWorkAtTheFirstTable(String... letters) {
        works = letters.length;
        x = new OpenPots();
        befores = new int[9];
        Arrays.fill(size, 1);
        for (int w = 0; w < works; w++) {
            needs[w] = letters[w].chars().map(letter -> 1 << (letter - 'a')).sum();
            due("work", x.work(needs[w], 0), w);
        }
        due("the last work at the first table", x.two(1) >> (works - 1), 1);
        tables();
    }

    // ---- room

    private void rooms() {
        findStretches();
        int most = x.ofOrder(0, 1);
        int[] prices = new int[most + 2];
        for (int r = 0; r <= most + 1; r++) {
            prices[r] = cheapest(r);
            due("cheapest(0, " + r + ")", x.cheapest(0, r), prices[r]);
        }
        int[] paid = {0, 1, chance.nextInt(30), chance.nextInt(300), 9999};
        for (int p : paid) {
            int r = 0;
            while (prices[r] == OpenPots.NONE || prices[r] > p) {
                r++;
            }
            due("room(0, " + p + ")", x.room(0, p), r);
        }
    }

    /** A thing and two places that need it with some between them that do not. */
    private void findStretches() {
        stretches = new int[0][];
        for (int t = 0; t < THINGS; t++) {
            int last = works;
            for (int k = 0; k < works; k++) {
                if ((needs[lawfulRow[k]] >> t & 1) != 0) {
                    if (k > last + 1) {
                        stretches = Arrays.copyOf(stretches, stretches.length + 1);
                        stretches[stretches.length - 1] = new int[] {t, last, k};
                    }
                    last = k;
                }
            }
        }
    }

    private int cheapest(int r) {
        Arrays.fill(load, 0);
        for (int k = 0; k < works; k++) {
            for (int t = 0; t < THINGS; t++) {
                load[k] += (needs[lawfulRow[k]] >> t & 1) * size[t];
            }
            if (load[k] > r) {
                return OpenPots.NONE;
            }
        }
        leastPrice = FAR;
        keepOrClose(0, 0, r);
        return leastPrice;
    }

    private void keepOrClose(int next, int paid, int r) {
        if (paid >= leastPrice) {
            return;
        }
        if (next == stretches.length) {
            leastPrice = paid;
            return;
        }
        int[] one = stretches[next];
        if (lay(one, size[one[0]]) <= r) {
            keepOrClose(next + 1, paid, r);
        }
        lay(one, -size[one[0]]);
        keepOrClose(next + 1, paid + price[one[0]], r);
    }

    /** How wide it then is at the widest. */
    private int lay(int[] stretch, int by) {
        int widest = 0;
        for (int k = stretch[1] + 1; k < stretch[2]; k++) {
            load[k] += by;
            widest = Math.max(widest, load[k]);
        }
        return widest;
    }

    // ---- what Plain can tell of so many, too

    private void likePlain() {
        for (int k = 0; k <= works; k++) {
            due("cross(" + k + ")", x.cross(k), y.cross(k));
        }
        due("knot(0)", x.knot(0), y.knot(0));
        due("knot(1)", x.knot(1), y.knot(1));
        due("bound()", x.bound(), y.bound());
        due("within()", x.within(), y.within());
        for (int w = -1; w < works; w++) {
            due("part(" + w + ")", x.part(w), y.part(w));
        }
        for (int rule = 0; rule < 3; rule++) {
            int seen = 1 + chance.nextInt(9);
            due("build(" + rule + ", " + seen + ")", x.build(rule, seen), y.build(rule, seen));
        }
        for (int o = 0; o < 4; o++) {
            due("moves(" + o + ")", x.moves(o), y.moves(o));
        }
        due("move(0)", x.move(0), y.move(0));
        due("move(3)", x.move(3), y.move(3));
        for (int o = 0; o < 6; o++) {
            for (int what = 0; what < 40; what++) {
                due("ofOrder(" + o + ", " + what + ")", x.ofOrder(o, what), y.ofOrder(o, what));
            }
            due("better(" + o + ", 1)", x.better(o, 1), y.better(o, 1));
        }
    }
}
