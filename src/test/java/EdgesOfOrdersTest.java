/** Section 2 of "Terms" and promises 7 to 11, sentence by sentence. */
public final class EdgesOfOrdersTest {
    private static final int UNKNOWN = -1, OUTSIDE = -2, STATE = -3, FULL = -4, NONE = -9;
    private static final int[] FAR_OFF = {Integer.MIN_VALUE, Integer.MAX_VALUE};
    private static final String NINE = "w;w;w;w;w;w;w;w;w";
    /** In its own order 4 wide and 12 long; each order that has another work in its middle 5 wide, but 11 long. */
    private static final String NARROW_OR_SHORT = "wbce;wab;wacd;sc2";
    private static final Check CHECK = new Check();

    public static void main(String[] args) {
        rowsOfAllWorks();
        whatIsOpen();
        howWide();
        lawfulOnes();
        eightOrders();
        betterOnes();
        theBest();
        fromSome();
        making();
        refusedOrders();
        refusedRows();
        ofOrders();
        refusedOfOrders();
        asksOfTheBest();
        asksFrom();
        refusedFrom();
        asksBetter();
        CHECK.end();
    }

    private static void rowsOfAllWorks() {
        CHECK.says(0, "AN ORDER is a row of all WORKS.");
        for (int n = 1; n <= 9; n++) {
            OpenPots x = Check.shopOf(NINE.substring(0, 2 * n - 1));
            int[] row = new int[n];
            for (int k = 0; k < n; k++) {
                row[k] = n - 1 - k;
            }
            CHECK.due("a row of " + n, Check.order(x, 0, row), 0);
            CHECK.due("one less", x.order(0, 2, 2, 0, n - 1), OUTSIDE);
            for (int k = 0; k < n; k++) {
                CHECK.due("work at " + k, x.ofOrder(0, 10 + k), row[k]);
            }
            CHECK.due("work at " + n, x.ofOrder(0, 10 + n), OUTSIDE);
        }
    }

    private static void whatIsOpen() {
        CHECK.says(0, "A THING is OPEN from the first WORK of it that NEEDS it to the last one.");
        // a from first to last, b in the middle, c at one place, d never.
        OpenPots x = Check.shopOf("wa;wb;w;wb;wac");
        Check.order(x, 0, 0, 1, 2, 3, 4);
        int[] open = {1, 3, 3, 3, 5};
        for (int k = 0; k < 5; k++) {
            CHECK.due("open at " + k, x.ofOrder(0, 20 + k), open[k]);
        }
        Check.order(x, 0, 2, 3, 1, 0, 4);
        int[] later = {0, 2, 2, 1, 5};
        for (int k = 0; k < 5; k++) {
            CHECK.due("open at " + k, x.ofOrder(1, 20 + k), later[k]);
        }
    }

    private static void howWide() {
        CHECK.says(0, "WIDE at a place: the SIZES of what is OPEN as that WORK is done, together; MOST: the greatest;"
                + " LONG: the sum over all places.");
        OpenPots x = Check.shopOf("wa;wb;w;wb;wac;sb4");
        Check.order(x, 0, 0, 1, 2, 3, 4);
        int[] wide = {1, 5, 5, 5, 2};
        for (int k = 0; k < 5; k++) {
            CHECK.due("wide at " + k, x.ofOrder(0, 30 + k), wide[k]);
        }
        CHECK.due("most", x.ofOrder(0, 1), 5);
        CHECK.due("long", x.ofOrder(0, 2), 18);
        Check.shop(x, "w");
        Check.order(x, 0, 0);
        for (int what : new int[] {1, 2, 20, 30}) {
            CHECK.due("of nothing", x.ofOrder(0, what), 0);
        }
        OpenPots y = new OpenPots();
        for (int w = 0; w < 9; w++) {
            y.work(1023, 0);
        }
        for (int t = 0; t < 10; t++) {
            y.thing(t, 0, 9);
        }
        y.build(0, 1);
        CHECK.due("the widest place there is", y.ofOrder(0, 38), 90);
        CHECK.due("the greatest most", y.ofOrder(0, 1), 90);
        CHECK.due("the greatest long", y.ofOrder(0, 2), 810);
        CHECK.due("all is open", y.ofOrder(0, 28), 1023);
    }

    private static void lawfulOnes() {
        CHECK.says(0, "It is LAWFUL, if each WORK comes behind its BEFORES.");
        OpenPots x = Check.shopOf("w;w;w;w<0<1");
        int[][] rows = {{0, 1, 2, 3}, {1, 0, 3, 2}, {0, 3, 1, 2}, {1, 3, 0, 2}, {3, 0, 1, 2}, {2, 1, 0, 3}};
        int[] lawful = {1, 1, 0, 0, 0, 1};
        for (int o = 0; o < rows.length; o++) {
            CHECK.due("a ROW", Check.order(x, 0, rows[o]), o);
            CHECK.due("lawful " + o, x.ofOrder(o, 3), lawful[o]);
        }
        // Ahead of its BEFORE at the last place, and the other way round.
        OpenPots y = Check.shopOf(NINE + "<0");
        Check.order(y, 0, 8, 1, 2, 3, 4, 5, 6, 7, 0);
        Check.order(y, 0, 0, 1, 2, 3, 4, 5, 6, 7, 8);
        CHECK.due("last ahead of first", y.ofOrder(0, 3), 0);
        CHECK.due("first ahead of last", y.ofOrder(1, 3), 1);
    }

    private static void eightOrders() {
        CHECK.says(0, "ORDERS, 8 ever till the WORKS change, numbered as they come, of a kind: 0 ROW; 1 BEFORE, a ROW"
                + " (LAWFUL); 2 AGAIN, a BEFORE.");
        OpenPots x = Check.shopOf("wa;wb<0");
        CHECK.due("a ROW", Check.order(x, 0, 1, 0), 0);
        CHECK.due("a BEFORE that is not LAWFUL", Check.order(x, 1, 1, 0), STATE);
        CHECK.due("a BEFORE", Check.order(x, 1, 0, 1), 1);
        CHECK.due("an AGAIN that is not LAWFUL", Check.order(x, 2, 1, 0), STATE);
        CHECK.due("an AGAIN", Check.order(x, 2, 0, 1), 2);
        CHECK.due("built", x.build(0, 1), 3);
        CHECK.due("moved", x.move(1), 4);
        for (int o = 5; o < 8; o++) {
            CHECK.due("the same", Check.order(x, 0, 1, 0), o);
        }
        CHECK.due("a ninth", Check.order(x, 0, 1, 0), FULL);
        CHECK.due("a ninth built", x.build(0, 1), FULL);
        CHECK.due("a ninth moved", x.move(1), FULL);
        x.thing(0, 0, 5);
        x.before(0, 1, false);
        Check.shop(x, "wk");
        x.work(1024, 0);
        CHECK.due("full still", Check.order(x, 0, 1, 0), FULL);
        CHECK.due("eight", x.many(1), 8);
        CHECK.due("a work more", x.work(0, 0), 2);
        CHECK.due("from 0 again", Check.order(x, 0, 1, 0, 2), 0);
        Check.shop(x, "wa;wb<0");
        CHECK.due("from 0 again", Check.order(x, 2, 0, 1), 0);
    }

    private static OpenPots narrowOrShort() {
        OpenPots x = Check.shopOf(NARROW_OR_SHORT);
        Check.order(x, 0, 0, 1, 2);
        Check.order(x, 0, 0, 2, 1);
        Check.order(x, 0, 2, 1, 0);
        Check.order(x, 0, 2, 0, 1);
        return x;
    }

    private static void betterOnes() {
        CHECK.says(0, "One ORDER is BETTER than another: of less MOST;");
        OpenPots x = narrowOrShort();
        CHECK.due("most of the first", x.ofOrder(0, 1), 4);
        CHECK.due("most of the second", x.ofOrder(1, 1), 5);
        CHECK.due("long of the first", x.ofOrder(0, 2), 12);
        CHECK.due("long of the second", x.ofOrder(1, 2), 11);
        CHECK.due("narrower, but longer", x.better(0, 1), 1);
        CHECK.due("wider, but shorter", x.better(1, 0), 0);
        CHECK.due("narrower, but later as a row", x.better(2, 1), 1);
        CHECK.says(0, "of like MOST of less LONG;");
        OpenPots y = Check.shopOf("wa;w;wa");
        Check.order(y, 0, 0, 1, 2);
        Check.order(y, 0, 2, 0, 1);
        CHECK.due("like most", y.ofOrder(0, 1), y.ofOrder(1, 1));
        CHECK.due("shorter, but later as a row", y.better(1, 0), 1);
        CHECK.due("longer, but first as a row", y.better(0, 1), 0);
        CHECK.says(0, "of like LONG the first as a row.");
        CHECK.due("first by its first work", x.better(0, 2), 1);
        CHECK.due("later by its first work", x.better(2, 0), 0);
        OpenPots z = Check.shopOf(NINE);
        Check.order(z, 0, 0, 1, 2, 3, 4, 5, 6, 7, 8);
        Check.order(z, 0, 0, 1, 2, 3, 4, 5, 6, 8, 7);
        Check.order(z, 0, 0, 1, 2, 3, 4, 5, 6, 7, 8);
        CHECK.due("first by its last but one", z.better(0, 1), 1);
        CHECK.due("later by its last but one", z.better(1, 0), 0);
        CHECK.due("the same row", z.better(0, 2), 0);
        CHECK.due("the same row", z.better(2, 0), 0);
    }

    private static void theBest() {
        CHECK.says(0, "THE BEST: the best one of all LAWFUL ones.");
        OpenPots x = Check.shopOf(NARROW_OR_SHORT);
        CHECK.due("row", Check.bestRow(x), 12);
        CHECK.due("most", x.best(0), 4);
        CHECK.due("long", x.best(1), 12);
        x.before(2, 0, true);
        CHECK.due("row of less MOST still", Check.bestRow(x), 210);
        x.before(0, 1, true);
        CHECK.due("the only one", Check.bestRow(x), 201);
        CHECK.due("its most", x.best(0), 5);
        CHECK.due("its long", x.best(1), 11);
        Check.shop(x, "wa;w;wa");
        CHECK.due("shorter ones first", Check.bestRow(x), 21);
        x.before(2, 0, true);
        CHECK.due("of those", Check.bestRow(x), 120);
        Check.shop(x, "wab");
        CHECK.due("most of one", x.best(0), 2);
        CHECK.due("long of one", x.best(1), 2);
        // All is found anew behind each change, be MOST as it was or nothing at all.
        x.work(12, 0);
        CHECK.due("long of two", x.best(1), 4);
        Check.shop(x, "w;w");
        CHECK.due("long of nothing", x.best(1), 0);
        CHECK.due("row of nothing", Check.bestRow(x), 1);
        x.work(1, 0);
        x.thing(0, 0, 5);
        CHECK.due("most of one more, by its SIZE", x.best(0), 5);
        x.before(2, 0, true);
        CHECK.due("row by a new BEFORE", Check.bestRow(x), 120);
        x.before(2, 0, false);
        CHECK.due("row without it", Check.bestRow(x), 12);
    }

    private static void fromSome() {
        CHECK.says(0, "FROM some WORKS that are done (with each all its BEFORES): the best of the rest: MOST, LONG are of"
                + " places behind them alone; what is done counts for what is OPEN.");
        // c lies open behind no work but the first; a till 2 is done; b where 3 is done.
        OpenPots x = Check.shopOf("wac;w;wa;wb;sc9");
        Check.order(x, 0, 0, 1, 2, 3);
        CHECK.due("most of all", x.best(0), 10);
        CHECK.due("most behind the first", x.from(0, 1, 0), 1);
        CHECK.due("long behind the first", x.from(0, 1, 1), 2);
        CHECK.due("a is closed first", x.from(0, 1, 2), 2);
        CHECK.due("long behind two", x.from(0, 2, 1), 2);
        CHECK.due("long behind three", x.from(0, 3, 1), 1);
        CHECK.due("next behind three", x.from(0, 3, 2), 3);
        // The rest of THE BEST is not the best of the rest: it may be wider behind a wide work.
        OpenPots y = Check.shopOf("wfghij;wbce<0;wab<0;wacd<0;sc2");
        Check.order(y, 0, 0, 1, 2, 3);
        CHECK.due("the best", Check.bestRow(y), 132);
        CHECK.due("its most", y.best(0), 5);
        CHECK.due("its long", y.best(1), 16);
        CHECK.due("most of the rest", y.from(0, 1, 0), 4);
        CHECK.due("long of the rest", y.from(0, 1, 1), 12);
        CHECK.due("its most still", y.best(0), 5);
        CHECK.due("its long still", y.best(1), 16);
        CHECK.due("the rest of two", y.from(0, 2, 2), 2);
    }

    private static void making() {
        CHECK.says(7, "An ORDER of a kind by n such cells (WORKS): its number.");
        for (int lane = 0; lane < 3; lane++) {
            OpenPots x = Check.shopOf("wa;wb;wc");
            x.sheet(lane, lane, 60);
            int[] row = {2, 0, 1};
            for (int k = 0; k < 3; k++) {
                x.put(lane, k, row[k]);
                x.put(lane, 57 + k, 2 - row[k]);
            }
            for (int kind = 0; kind < 3; kind++) {
                CHECK.due("from the first cell", x.order(kind, lane, lane, 0, 3), 2 * kind);
                CHECK.due("to the last cell", x.order(kind, lane, lane, 57, 3), 2 * kind + 1);
                CHECK.due("its row", Check.row(x, 2 * kind), 201);
                CHECK.due("its row", Check.row(x, 2 * kind + 1), 21);
                CHECK.due("its kind", x.ofOrder(2 * kind + 1, 0), kind);
            }
            x.put(lane, 0, 1);
            CHECK.due("a cell is changed later", Check.row(x, 0), 201);
        }
    }

    private static void refusedOrders() {
        OpenPots x = Check.shopOf("wa;wb");
        x.sheet(0, 0, 3);
        x.put(0, 1, 1);
        CHECK.says(7, "UNKNOWN: SHEET;");
        CHECK.due("sheet -1", x.order(0, -1, 0, 0, 2), UNKNOWN);
        CHECK.due("sheet 4", x.order(0, 4, 0, 0, 2), UNKNOWN);
        CHECK.says(7, "OUTSIDE: kind, lane;");
        CHECK.due("kind -1", x.order(-1, 0, 0, 0, 2), OUTSIDE);
        CHECK.due("kind 3", x.order(3, 0, 0, 0, 2), OUTSIDE);
        CHECK.due("lane -1", x.order(0, 0, -1, 0, 2), OUTSIDE);
        CHECK.due("lane 3", x.order(0, 0, 3, 0, 2), OUTSIDE);
        CHECK.says(7, "FAULTS as shop();");
        CHECK.due("nothing", x.order(0, 1, 0, 0, 2), -11);
        CHECK.due("fault()", x.fault(), 1);
        CHECK.due("nothing is no CAST", x.order(0, 1, 2, 0, 2), -11);
        CHECK.due("shorts", x.order(0, 0, 1, 0, 2), -12);
        CHECK.due("ints", x.order(0, 0, 2, 0, 2), -12);
        CHECK.due("fault()", x.fault(), 2);
        CHECK.due("below 0", x.order(0, 0, 0, 0, -1), -14);
        CHECK.due("fault()", x.fault(), 4);
        CHECK.due("one too many", x.order(0, 0, 0, 2, 2), -13);
        CHECK.due("fault()", x.fault(), 3);
        CHECK.due("from -1", x.order(0, 0, 0, -1, 2), -13);
        CHECK.due("so many that it wraps", x.order(0, 0, 0, 3, Integer.MAX_VALUE), -13);
        CHECK.due("so far that it wraps", x.order(0, 0, 0, Integer.MAX_VALUE, 2), -13);
        CHECK.says(7, "OUTSIDE: n is not how many WORKS there are (0, too);");
        CHECK.due("none", x.order(0, 0, 0, 0, 0), OUTSIDE);
        CHECK.due("fault()", x.fault(), 0);
        CHECK.due("one less", x.order(0, 0, 0, 0, 1), OUTSIDE);
        CHECK.due("one more", x.order(0, 0, 0, 0, 3), OUTSIDE);
        CHECK.due("just so many", x.order(0, 0, 0, 0, 2), 0);
        OpenPots none = new OpenPots();
        none.sheet(0, 0, 1);
        CHECK.due("none of none", none.order(0, 0, 0, 0, 0), OUTSIDE);
        CHECK.due("one of none", none.order(0, 0, 0, 0, 1), OUTSIDE);
    }

    private static void refusedRows() {
        OpenPots x = Check.shopOf("wa;wb;wc<0");
        CHECK.says(7, "UNKNOWN: a WORK;");
        CHECK.due("3", Check.order(x, 0, 0, 1, 3), UNKNOWN);
        CHECK.due("-1", Check.order(x, 0, -1, 1, 2), UNKNOWN);
        CHECK.due("far below", Check.order(x, 0, 0, Integer.MIN_VALUE, 1), UNKNOWN);
        CHECK.due("far above", Check.order(x, 0, 0, Integer.MAX_VALUE, 1), UNKNOWN);
        CHECK.due("32 is not 0", Check.order(x, 0, 32, 1, 2), UNKNOWN);
        CHECK.due("behind one that comes twice", Check.order(x, 0, 1, 1, 3), UNKNOWN);
        CHECK.says(7, "STATE: one comes twice, it is not LAWFUL (but of a ROW);");
        CHECK.due("twice, at first", Check.order(x, 0, 1, 1, 2), STATE);
        CHECK.due("twice, at last", Check.order(x, 0, 1, 2, 2), STATE);
        CHECK.due("twice, far off", Check.order(x, 0, 2, 1, 2), STATE);
        CHECK.due("three times", Check.order(x, 2, 0, 0, 0), STATE);
        CHECK.due("a BEFORE", Check.order(x, 1, 2, 1, 0), STATE);
        CHECK.due("an AGAIN", Check.order(x, 2, 1, 2, 0), STATE);
        CHECK.due("but of a ROW", Check.order(x, 0, 2, 1, 0), 0);
        CHECK.due("a LAWFUL one", Check.order(x, 1, 1, 0, 2), 1);
        CHECK.says(7, "FULL.");
        for (int o = 2; o < 8; o++) {
            CHECK.due("order " + o, Check.order(x, o % 3, 0, 1, 2), o);
        }
        for (int kind = 0; kind < 3; kind++) {
            CHECK.due("a ninth of kind " + kind, Check.order(x, kind, 0, 1, 2), FULL);
        }
        CHECK.due("fault()", x.fault(), 0);
    }

    private static void ofOrders() {
        CHECK.says(8, "Of an ORDER: 0 kind, 1 MOST, 2 LONG, 3 whether it is LAWFUL now (1, 0), 10 and k: the WORK at its"
                + " k-th place, 20 and k: what is OPEN there, as a set, 30 and k: how WIDE.");
        OpenPots x = Check.shopOf("wab;wc;wb;sb2");
        int o = Check.order(x, 2, 2, 1, 0);
        int[][] due = {{0, 2}, {1, 3}, {2, 8}, {3, 1}, {10, 2}, {11, 1}, {12, 0}, {20, 2}, {21, 6}, {22, 3}, {30, 2},
            {31, 3}, {32, 3}};
        for (int[] one : due) {
            CHECK.due("ofOrder(o, " + one[0] + ")", x.ofOrder(o, one[0]), one[1]);
        }
        x.before(0, 2, true);
        CHECK.due("not LAWFUL now", x.ofOrder(o, 3), 0);
        CHECK.due("its kind stays", x.ofOrder(o, 0), 2);
        x.before(0, 2, false);
        CHECK.due("LAWFUL now", x.ofOrder(o, 3), 1);
        x.thing(1, 0, 9);
        CHECK.due("by SIZES now", x.ofOrder(o, 31), 10);
        Check.shop(x, NINE);
        Check.order(x, 0, 8, 7, 6, 5, 4, 3, 2, 1, 0);
        CHECK.due("the ninth place", x.ofOrder(0, 18), 0);
        CHECK.due("open there", x.ofOrder(0, 28), 0);
        CHECK.due("wide there", x.ofOrder(0, 38), 0);
    }

    private static void refusedOfOrders() {
        OpenPots x = Check.shopOf("wab;wc;wb;sb2");
        x.build(0, 1);
        CHECK.says(8, "UNKNOWN;");
        CHECK.due("-1", x.ofOrder(-1, 0), UNKNOWN);
        CHECK.due("1", x.ofOrder(1, 0), UNKNOWN);
        CHECK.due("8", x.ofOrder(8, 0), UNKNOWN);
        CHECK.says(8, "OUTSIDE.");
        for (int what = -40; what < 60; what++) {
            boolean told = what >= 0 && what <= 3 || what >= 10 && what <= 12 || what >= 20 && what <= 22
                    || what >= 30 && what <= 32;
            CHECK.due("outside is " + what, x.ofOrder(0, what) == OUTSIDE ? 1 : 0, told ? 0 : 1);
        }
        for (int far : FAR_OFF) {
            CHECK.due("order " + far, x.ofOrder(far, 0), UNKNOWN);
            CHECK.due("what " + far, x.ofOrder(0, far), OUTSIDE);
        }
        Check.shop(x, NINE);
        x.build(0, 1);
        for (int what = 19; what < 50; what += 10) {
            CHECK.due("a tenth place", x.ofOrder(0, what), OUTSIDE);
        }
    }

    private static void asksOfTheBest() {
        CHECK.says(9, "THE BEST: 0 MOST, 1 LONG, 10 and k: the WORK at its k-th place.");
        OpenPots x = Check.shopOf(NINE + "a");
        x.before(8, 0, true);
        CHECK.due("most", x.best(0), 1);
        CHECK.due("long", x.best(1), 1);
        int[] row = {1, 2, 3, 4, 5, 6, 7, 8, 0};
        for (int k = 0; k < 9; k++) {
            CHECK.due("work at " + k, x.best(10 + k), row[k]);
        }
        CHECK.due("no order is made", x.many(1), 0);
        CHECK.says(9, "STATE: there are no WORKS;");
        OpenPots none = new OpenPots();
        for (int what : new int[] {0, 1, 10}) {
            CHECK.due("best(" + what + ") of none", none.best(what), STATE);
        }
        CHECK.says(9, "OUTSIDE.");
        OpenPots three = Check.shopOf("wa;wb;wc");
        for (int what = -20; what < 60; what++) {
            boolean told = what == 0 || what == 1 || what >= 10 && what <= 12;
            CHECK.due("outside is " + what, three.best(what) == OUTSIDE ? 1 : 0, told ? 0 : 1);
        }
        CHECK.due("a tenth place", x.best(19), OUTSIDE);
        for (int far : FAR_OFF) {
            CHECK.due("best(" + far + ")", x.best(far), OUTSIDE);
        }
    }

    private static void asksFrom() {
        CHECK.says(10, "The best FROM the first k WORKS of an ORDER: MOST (what 0), LONG (1), the next WORK (2; NONE: there"
                + " is none, MOST, LONG are 0).");
        OpenPots x = Check.shopOf("wab;wa;wb;w");
        Check.order(x, 0, 3, 1, 0, 2);
        int[][] due = {{2, 4, 1}, {2, 4, 1}, {2, 3, 0}, {1, 1, 2}, {0, 0, NONE}};
        for (int k = 0; k <= 4; k++) {
            for (int what = 0; what < 3; what++) {
                CHECK.due("from(0, " + k + ", " + what + ")", x.from(0, k, what), due[k][what]);
            }
        }
        OpenPots one = Check.shopOf("wabc");
        one.build(0, 1);
        CHECK.due("most of one", one.from(0, 0, 0), 3);
        CHECK.due("next of one", one.from(0, 0, 2), 0);
        CHECK.due("most behind one", one.from(0, 1, 0), 0);
        CHECK.due("long behind one", one.from(0, 1, 1), 0);
        CHECK.due("next behind one", one.from(0, 1, 2), NONE);
    }

    private static void refusedFrom() {
        OpenPots x = Check.shopOf("wab;wa;wb;w");
        x.before(3, 2, true);
        Check.order(x, 0, 2, 0, 3, 1);
        CHECK.says(10, "UNKNOWN;");
        CHECK.due("order -1", x.from(-1, 0, 0), UNKNOWN);
        CHECK.due("order 1", x.from(1, 0, 0), UNKNOWN);
        CHECK.says(10, "OUTSIDE: k (0 .. all), what;");
        CHECK.due("k -1", x.from(0, -1, 0), OUTSIDE);
        CHECK.due("k 5", x.from(0, 5, 0), OUTSIDE);
        CHECK.due("what -1", x.from(0, 0, -1), OUTSIDE);
        CHECK.due("what 3", x.from(0, 0, 3), OUTSIDE);
        for (int far : FAR_OFF) {
            CHECK.due("order " + far, x.from(far, 0, 0), UNKNOWN);
            CHECK.due("k " + far, x.from(0, far, 0), OUTSIDE);
            CHECK.due("what " + far, x.from(0, 0, far), OUTSIDE);
        }
        CHECK.says(10, "STATE: some BEFORES of these are not done.");
        int[] due = {3, STATE, STATE, 1, NONE};
        for (int k = 0; k <= 4; k++) {
            CHECK.due("behind " + k, x.from(0, k, 2), due[k]);
        }
        x.before(3, 2, false);
        CHECK.due("behind 1, free", x.from(0, 1, 2), 0);
        x.before(1, 2, true);
        CHECK.due("behind 3", x.from(0, 3, 0), STATE);
        CHECK.due("behind all, though it is not LAWFUL", x.from(0, 4, 2), NONE);
        // WORK 0 may lack its BEFORES, too.
        Check.shop(x, "wab;wa;wb;w");
        x.before(3, 0, true);
        Check.order(x, 0, 0, 1, 2, 3);
        for (int k = 1; k < 4; k++) {
            CHECK.due("behind " + k, x.from(0, k, 0), STATE);
        }
        CHECK.due("behind all", x.from(0, 4, 0), 0);
    }

    private static void asksBetter() {
        CHECK.says(11, "Whether an ORDER is BETTER than another one: 1, 0.");
        OpenPots x = narrowOrShort();
        int[] rank = {0, 2, 1, 3};
        for (int o = 0; o < 4; o++) {
            for (int p = 0; p < 4; p++) {
                CHECK.due("better(" + o + ", " + p + ")", x.better(o, p), rank[o] < rank[p] ? 1 : 0);
            }
        }
        x.before(1, 0, true);
        CHECK.due("one that is not LAWFUL now", x.better(0, 2), 1);
        CHECK.says(11, "UNKNOWN.");
        for (int none : new int[] {-1, 4, 8, Integer.MIN_VALUE, Integer.MAX_VALUE}) {
            CHECK.due("better(0, " + none + ")", x.better(0, none), UNKNOWN);
            CHECK.due("better(" + none + ", 0)", x.better(none, 0), UNKNOWN);
            CHECK.due("better(" + none + ", " + none + ")", x.better(none, none), UNKNOWN);
        }
    }
}
