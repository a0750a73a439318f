/** Promises 7 to 11: order, ofOrder, best, from, better. */
public final class OrdersTest {
    private static final Check CHECK = new Check();

    public static void main(String[] args) {
        making();
        refusing();
        whatIsOpen();
        theBest();
        leastMostBeforeLong();
        fromTheMidst();
        betterOnes();
        nineWorks();
        CHECK.end();
    }

    private static void making() {
        OpenPots x = new OpenPots();
        Check.shop(x, "wa;wb;wc<1");
        CHECK.due("a ROW", Check.order(x, 0, 2, 1, 0), 0);
        CHECK.due("a BEFORE", Check.order(x, 1, 1, 2, 0), 1);
        CHECK.due("an AGAIN", Check.order(x, 2, 0, 1, 2), 2);
        CHECK.due("an unlawful BEFORE", Check.order(x, 1, 2, 1, 0), OpenPots.STATE);
        CHECK.due("an unlawful AGAIN", Check.order(x, 2, 0, 2, 1), OpenPots.STATE);
        CHECK.due("many(1)", x.many(1), 3);
        x.sheet(0, 0, 60);
        x.put(0, 57, 2);
        x.put(0, 58, 0);
        x.put(0, 59, 1);
        CHECK.due("from the end of a row", x.order(0, 0, 0, 57, 3), 3);
        CHECK.due("its row", Check.row(x, 3), 201);
        for (int o = 4; o < 8; o++) {
            CHECK.due("order", Check.order(x, 0, 0, 1, 2), o);
        }
        CHECK.due("a ninth", Check.order(x, 0, 0, 1, 2), OpenPots.FULL);
        CHECK.due("an unlawful ninth", Check.order(x, 1, 2, 1, 0), OpenPots.STATE);
        CHECK.due("work", x.work(0, 0), 3);
        CHECK.due("numbers begin anew", Check.order(x, 0, 3, 0, 1, 2), 0);
    }

    private static void refusing() {
        OpenPots x = new OpenPots();
        x.sheet(0, 0, 4);
        CHECK.due("no works, no cells", x.order(0, 0, 0, 0, 0), OpenPots.OUTSIDE);
        Check.shop(x, "wa;wb;wc");
        CHECK.due("no sheet", x.order(9, 4, 9, 0, 3), OpenPots.UNKNOWN);
        CHECK.due("no kind", x.order(-1, 0, 0, 0, 3), OpenPots.OUTSIDE);
        CHECK.due("no kind", x.order(3, 1, 0, 0, 3), OpenPots.OUTSIDE);
        CHECK.due("no lane", x.order(0, 1, 3, 0, 3), OpenPots.OUTSIDE);
        CHECK.due("nothing", x.order(0, 1, 0, 0, -1), -11);
        CHECK.due("another lane", x.order(0, 0, 1, 0, -1), -12);
        CHECK.due("below 0", x.order(0, 0, 0, 9, -1), -14);
        CHECK.due("fault()", x.fault(), 4);
        CHECK.due("beyond", x.order(0, 0, 0, 2, 3), -13);
        CHECK.due("fault()", x.fault(), 3);
        CHECK.due("too few", x.order(0, 0, 0, 0, 2), OpenPots.OUTSIDE);
        CHECK.due("fault()", x.fault(), 0);
        CHECK.due("none", x.order(0, 0, 0, 4, 0), OpenPots.OUTSIDE);
        CHECK.due("none, beyond", x.order(0, 0, 0, 5, 0), -13);
        CHECK.due("too many", x.order(0, 0, 0, 0, 4), OpenPots.OUTSIDE);
        CHECK.due("one twice", Check.order(x, 0, 1, 1, 0), OpenPots.STATE);
        CHECK.due("one unknown", Check.order(x, 0, 1, 0, 3), OpenPots.UNKNOWN);
        CHECK.due("one below", Check.order(x, 0, -1, 0, 1), OpenPots.UNKNOWN);
        CHECK.due("twice and unknown", Check.order(x, 0, 1, 1, 3), OpenPots.UNKNOWN);
        CHECK.due("many(1)", x.many(1), 0);
    }

    private static void whatIsOpen() {
        OpenPots x = new OpenPots();
        Check.shop(x, "wab;w;wa;wbj<0;sj9;sb2");
        Check.order(x, 0, 3, 1, 0, 2);
        int[] open = {2 | 512, 2, 3, 1};
        int[] wide = {11, 2, 3, 1};
        int[] row = {3, 1, 0, 2};
        for (int k = 0; k < 4; k++) {
            CHECK.due("work at " + k, x.ofOrder(0, 10 + k), row[k]);
            CHECK.due("open at " + k, x.ofOrder(0, 20 + k), open[k]);
            CHECK.due("wide at " + k, x.ofOrder(0, 30 + k), wide[k]);
        }
        CHECK.due("kind", x.ofOrder(0, 0), 0);
        CHECK.due("most", x.ofOrder(0, 1), 11);
        CHECK.due("long", x.ofOrder(0, 2), 17);
        CHECK.due("lawful", x.ofOrder(0, 3), 0);
        x.thing(1, 0, 9);
        CHECK.due("most by new sizes", x.ofOrder(0, 1), 18);
        int[] outside = {-1, -10, 4, 9, 14, 19, 24, 29, 34, 39, 40, 100, Integer.MIN_VALUE, Integer.MAX_VALUE};
        for (int what : outside) {
            CHECK.due("ofOrder(0, " + what + ")", x.ofOrder(0, what), OpenPots.OUTSIDE);
        }
        CHECK.due("ofOrder(1, 99)", x.ofOrder(1, 99), OpenPots.UNKNOWN);
        CHECK.due("ofOrder(-1, 0)", x.ofOrder(-1, 0), OpenPots.UNKNOWN);
    }

    private static void theBest() {
        OpenPots x = new OpenPots();
        CHECK.due("best(99) of none", x.best(99), OpenPots.STATE);
        Check.shop(x, "wab;wcd;wbc;wda");
        // A ring of four: three lie open in its middle, whatever the order; 0 and then a neighbour is first.
        CHECK.due("most", x.best(0), 3);
        CHECK.due("long", x.best(1), 10);
        CHECK.due("row", Check.bestRow(x), 213);
        int[] outside = {-1, 2, 9, 14, Integer.MAX_VALUE, Integer.MIN_VALUE};
        for (int what : outside) {
            CHECK.due("best(" + what + ")", x.best(what), OpenPots.OUTSIDE);
        }
        x.before(1, 0, true);
        x.before(0, 2, true);
        x.before(0, 3, true);
        CHECK.due("most, bound", x.best(0), 4);
        CHECK.due("row, bound", Check.bestRow(x), 1023);
    }

    private static void leastMostBeforeLong() {
        OpenPots x = new OpenPots();
        // The shortest order of these has LONG 14, but is 4 wide.
        Check.shop(x, "wa;wadf;wbcf;wac;wae;wac");
        CHECK.due("most", x.best(0), 3);
        CHECK.due("long", x.best(1), 15);
        // Behind a first work that is 4 wide in any case the rest may be so, too.
        Check.shop(x, "wghij;wa<0;wadf<0;wbcf<0;wac<0;wae<0;wac<0");
        CHECK.due("most behind a wide one", x.best(0), 4);
        CHECK.due("long behind a wide one", x.best(1), 18);
        Check.order(x, 1, 0, 1, 2, 3, 4, 5, 6);
        CHECK.due("most from it", x.from(0, 1, 0), 3);
        CHECK.due("long from it", x.from(0, 1, 1), 15);
        CHECK.due("long as before", x.best(1), 18);
        Check.shop(x, "w;w;w");
        CHECK.due("most of nothing", x.best(0), 0);
        CHECK.due("long of nothing", x.best(1), 0);
        CHECK.due("row of nothing", Check.bestRow(x), 12);
        CHECK.due("first", x.best(10), 0);
    }

    private static void fromTheMidst() {
        OpenPots x = new OpenPots();
        Check.shop(x, "wab;wcd;wbc;wda<2");
        Check.order(x, 0, 0, 1, 3, 2);
        CHECK.due("from 1: most", x.from(0, 1, 0), 3);
        CHECK.due("from 2: most", x.from(0, 2, 0), 4);
        CHECK.due("from 2: long", x.from(0, 2, 1), 6);
        CHECK.due("from 2: next", x.from(0, 2, 2), 2);
        CHECK.due("from 3", x.from(0, 3, 0), OpenPots.STATE);
        CHECK.due("from 3, what", x.from(0, 3, 3), OpenPots.OUTSIDE);
        CHECK.due("from 3, what", x.from(0, 3, -1), OpenPots.OUTSIDE);
        CHECK.due("from all: most", x.from(0, 4, 0), 0);
        CHECK.due("from all: long", x.from(0, 4, 1), 0);
        CHECK.due("from all: next", x.from(0, 4, 2), OpenPots.NONE);
        CHECK.due("from 5", x.from(0, 5, 0), OpenPots.OUTSIDE);
        CHECK.due("from -1", x.from(0, -1, 0), OpenPots.OUTSIDE);
        CHECK.due("of no order", x.from(1, -1, 9), OpenPots.UNKNOWN);
        CHECK.due("from 0: most", x.from(0, 0, 0), x.best(0));
        CHECK.due("from 0: long", x.from(0, 0, 1), x.best(1));
        CHECK.due("from 0: next", x.from(0, 0, 2), x.best(10));
        // 3 ahead of its BEFORE 2: unlawful as a row, but both are done.
        Check.order(x, 0, 3, 2, 0, 1);
        CHECK.due("of one that lacks its before", x.from(1, 1, 0), OpenPots.STATE);
        x.before(1, 0, true);
        Check.order(x, 0, 0, 1, 2, 3);
        CHECK.due("the first lacks its before", x.from(2, 1, 0), OpenPots.STATE);
        x.before(1, 0, false);
        CHECK.due("of both", x.from(1, 2, 0), 4);
        CHECK.due("of both, next", x.from(1, 2, 2), 0);
    }

    private static void betterOnes() {
        OpenPots x = new OpenPots();
        Check.shop(x, "wa;wb;wa;wc<0");
        int[][] rows = {{0, 2, 1, 3}, {0, 2, 3, 1}, {0, 1, 2, 3}, {0, 1, 3, 2}, {3, 2, 1, 0}};
        for (int[] row : rows) {
            Check.order(x, 0, row);
        }
        // MOST 1, 1, 2, 2, 2; LONG 4, 4, 5, 6, 5 (the last is not even LAWFUL).
        int[] rank = {0, 1, 2, 4, 3};
        for (int o = 0; o < rows.length; o++) {
            for (int p = 0; p < rows.length; p++) {
                CHECK.due("better(" + o + ", " + p + ")", x.better(o, p), rank[o] < rank[p] ? 1 : 0);
            }
        }
        CHECK.due("better(0, 5)", x.better(0, 5), OpenPots.UNKNOWN);
        CHECK.due("better(-1, 0)", x.better(-1, 0), OpenPots.UNKNOWN);
    }

    private static final int[] NEEDS = new int[9], AHEAD = new int[9];
    private static int bestMost, bestLong, bestRow;

    /** As many works and things as there can be, against every order of them. */
    private static void nineWorks() {
        java.util.Random chance = new java.util.Random(9);
        for (int run = 0; run < 6; run++) {
            OpenPots x = new OpenPots();
            int[] size = new int[10];
            for (int t = 0; t < 10; t++) {
                size[t] = 1 + chance.nextInt(9);
                x.thing(t, 0, size[t]);
            }
            for (int w = 0; w < 9; w++) {
                NEEDS[w] = chance.nextInt(1024) & chance.nextInt(1024);
                AHEAD[w] = w == 0 ? 0 : chance.nextInt(1 << w) & chance.nextInt(1 << w) & chance.nextInt(1 << w) & chance.nextInt(1 << w);
                x.work(NEEDS[w], AHEAD[w]);
            }
            bestMost = Integer.MAX_VALUE;
            tryAll(0, 0, 0, 0, 0, size);
            CHECK.due("nine: most", x.best(0), bestMost);
            CHECK.due("nine: long", x.best(1), bestLong);
            CHECK.due("nine: row", Check.bestRow(x), bestRow);
        }
    }

    private static int neededBy(int set) {
        int things = 0;
        for (int w = 0; w < 9; w++) {
            things |= (set >> w & 1) != 0 ? NEEDS[w] : 0;
        }
        return things;
    }

    private static void tryAll(int done, int most, int sum, int row, int depth, int[] size) {
        if (depth == 9) {
            if (most < bestMost || most == bestMost && sum < bestLong) {
                bestMost = most;
                bestLong = sum;
                bestRow = row;
            }
            return;
        }
        for (int w = 0; w < 9; w++) {
            if ((done >> w & 1) == 0 && (AHEAD[w] & ~done) == 0) {
                int open = neededBy(done | 1 << w) & neededBy(511 & ~done);
                int wide = 0;
                for (int t = 0; t < 10; t++) {
                    wide += (open >> t & 1) * size[t];
                }
                tryAll(done | 1 << w, Math.max(most, wide), sum + wide, row * 10 + w, depth + 1, size);
            }
        }
    }
}
