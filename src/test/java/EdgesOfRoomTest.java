/** Section 5 of "Terms" and promises 20 to 25, sentence by sentence. */
public final class EdgesOfRoomTest {
    private static final int UNKNOWN = -1, OUTSIDE = -2, STATE = -3, NONE = -9;
    private static final int[] FAR_OFF = {Integer.MIN_VALUE, Integer.MAX_VALUE};
    private static final String NINE = "w;w;w;w;w;w;w;w;w";
    private static final Check CHECK = new Check();

    public static void main(String[] args) {
        howMuchRoom();
        closedAndOpened();
        leastPrice();
        tables();
        withoutSome();
        asksCheapest();
        asksRoom();
        asksTwo();
        asksWithout();
        asksWhy();
        asksWidest();
        CHECK.end();
    }

    /** Its works in the order of their numbers, as ORDER 0; each THING has another PRICE: a 10, b 11 and so on. */
    private static OpenPots rowOf(String text) {
        OpenPots x = Check.shopOf(text);
        for (int t = 0; t < 10; t++) {
            x.thing(t, 1, 10 + t);
        }
        int[] row = new int[x.many(0)];
        for (int k = 0; k < row.length; k++) {
            row[k] = k;
        }
        Check.order(x, 0, row);
        return x;
    }

    private static void howMuchRoom() {
        CHECK.says(0, "ROOM r (0 .. 99): as each WORK of an ORDER is done, all that it NEEDS is OPEN, and no more than r by"
                + " SIZE;");
        OpenPots x = rowOf("wab;wc;wd;sb4;sc6");
        CHECK.due("room 4", x.cheapest(0, 4), NONE);
        CHECK.due("room 5, enough for the first", x.cheapest(0, 5), NONE);
        CHECK.due("room 6, enough for each", x.cheapest(0, 6), 0);
        CHECK.due("room 99", x.cheapest(0, 99), 0);
        OpenPots none = rowOf(NINE);
        CHECK.due("room 0 for nothing", none.cheapest(0, 0), 0);
        CHECK.due("room 0 for something", rowOf("w;wa;w").cheapest(0, 0), NONE);
        OpenPots all = rowOf("wabcdefghij");
        for (int t = 0; t < 10; t++) {
            all.thing(t, 0, 9);
        }
        CHECK.due("room 89 for all", all.cheapest(0, 89), NONE);
        CHECK.due("room 90 for all", all.cheapest(0, 90), 0);
        // What is kept open beside a work's own things fills the room, too: just so, and by one too much.
        OpenPots beside = rowOf("wa;wb;wa;sa3;sb4");
        CHECK.due("by one too much", beside.cheapest(0, 6), 10);
        CHECK.due("just so", beside.cheapest(0, 7), 0);
    }

    private static void closedAndOpened() {
        CHECK.says(0, "a THING may be closed as a WORK is done, and opened as a later one is, for its PRICE, each time but"
                + " the first.");
        CHECK.due("but the first", rowOf("wa;wb;wc").cheapest(0, 1), 0);
        CHECK.due("at two places side by side", rowOf("wa;wa;wb").cheapest(0, 1), 0);
        CHECK.due("at the first and the last", rowOf("wa;wb;wa").cheapest(0, 1), 10);
        CHECK.due("twice again", rowOf("wa;wb;wa;wc;wa").cheapest(0, 1), 20);
        CHECK.due("each of two again", rowOf("wa;wb;wa;wb").cheapest(0, 1), 21);
        CHECK.due("over several places", rowOf("wa;wb;wc;wd;wa").cheapest(0, 1), 10);
        CHECK.due("kept where nothing is needed", rowOf("wa;w;w;wa").cheapest(0, 1), 0);
        CHECK.due("four times again", rowOf("wa;wb;wa;wb;wa;wb;wa;wb;wa").cheapest(0, 1), 4 * 10 + 3 * 11);
        OpenPots x = rowOf("wa;wb;wa");
        x.thing(0, 1, 0);
        CHECK.due("for nothing", x.cheapest(0, 1), 0);
        x.thing(0, 1, 99);
        CHECK.due("for the most", x.cheapest(0, 1), 99);
        // All ten things, half of them closed at each work.
        OpenPots all = rowOf("wabcde;wfghij;wabcde;wfghij;wabcde");
        for (int t = 0; t < 10; t++) {
            all.thing(t, 1, 99);
        }
        CHECK.due("all of them", all.cheapest(0, 5), 15 * 99);
        CHECK.due("all but the one there is room for", all.cheapest(0, 6), 12 * 99);
        CHECK.due("all kept", all.cheapest(0, 10), 0);
    }

    private static void leastPrice() {
        CHECK.says(0, "CHEAPEST: the least PRICE together.");
        // Beside c there is room for one of a and b: the dearer one is kept.
        OpenPots x = rowOf("wab;wc;wab");
        CHECK.due("the cheaper one is closed", x.cheapest(0, 2), 10);
        x.thing(0, 1, 12);
        CHECK.due("the cheaper one is closed", x.cheapest(0, 2), 11);
        // Two cheap ones or a dear one that is as great as both.
        OpenPots y = rowOf("wabc;wd;wabc;sc2;sd2");
        y.thing(2, 1, 20);
        CHECK.due("c is closed", y.cheapest(0, 4), 20);
        y.thing(2, 1, 21);
        CHECK.due("a and b, or c", y.cheapest(0, 4), 21);
        y.thing(2, 1, 22);
        CHECK.due("a and b are closed", y.cheapest(0, 4), 21);
        // To close it later is no better where it is closed in any case.
        OpenPots z = rowOf("wab;wc;wbd;wc;wa");
        CHECK.due("closed once for all that is between", z.cheapest(0, 2), 10 + 12);
    }

    private static void tables(String text, int greater, int first, int here, int there) {
        tables(Check.shopOf(text), text, greater, first, here, there);
    }

    private static void tables(OpenPots x, String text, int greater, int first, int here, int there) {
        int[] due = {greater, first, here, there};
        for (int what = 0; what < 4; what++) {
            CHECK.due("two(" + what + ") of '" + text + "'", x.two(what), due[what]);
        }
    }

    private static void tables() {
        CHECK.says(0, "TWO tables: each WORK at one of two, each table has an order of its own that keeps BEFORES of those"
                + " at it;");
        tables("wa", 1, 1, 1, 0);
        tables("wa;wb<0;wa<1", 1, 1, 1, 1);
        // Only where 0 and 2 are apart, or 1 from both, is a not open beside b.
        tables("wa;wb<0;wa<1;wb<2", 1, 3, 1, 1);
        CHECK.says(0, "the greater of both least MOSTS is to be the least;");
        tables("wab;wcd;wef", 2, 1, 2, 2);
        tables("wa;wbcdef;wa", 5, 1, 1, 5);
        // A ring of four is 3 wide at one table, and 2 once one of it is at the other.
        tables("wab;wbc;wcd;wda", 2, 1, 2, 2);
        // At one table c lies between works that need a and b.
        tables("wab;wab<0;wc<1;wab<2;wab<3", 2, 3, 2, 2);
        // With 2 at the first table nothing keeps 1 ahead of 3 and 4 at the second.
        tables("wc;wc<0;wc<1;wad<2;wcd<3", 2, 5, 1, 2);
        // Each work behind all ahead of it: no parting is as narrow as each work alone, and later ones are as good.
        OpenPots x = new OpenPots();
        String things = "abcabacba";
        for (int w = 0; w < 9; w++) {
            x.work(1 << (things.charAt(w) - 'a'), (1 << w) - 1);
        }
        tables(x, things, 2, 19, 1, 2);
        CHECK.says(0, "of several partings the least set at the first table, as a number (it has WORK 0).");
        tables(NINE, 0, 1, 0, 0);
        tables("wab;wcd", 2, 1, 2, 2);
        tables("wab;w;w;w", 2, 1, 2, 0);
    }

    private static void withoutSome() {
        CHECK.says(0, "WITHOUT a WORK (its BEFORES go, too, both ways), or without one BEFORE: MOST of the best then.");
        OpenPots x = Check.shopOf("wa;wb<0;wa<1");
        CHECK.due("with all", x.best(0), 2);
        CHECK.due("without the middle", x.without(1), 1);
        CHECK.due("without the first", x.without(0), 1);
        CHECK.due("without a BEFORE", x.why(0, 1), 1);
        CHECK.due("without the other", x.why(1, 2), 1);
        // 2 is behind 1 and ahead of 3: once it has gone, nothing keeps 3 behind 1.
        Check.shop(x, "wac;wad<0;w<1;wac<2");
        CHECK.due("with all", x.best(0), 3);
        CHECK.due("without the joint", x.without(2), 2);
        // What is told twice still holds without one of them.
        Check.shop(x, "wa;wb<0;wa<1<0");
        CHECK.due("0 ahead of 2 stays", x.why(1, 2), 1);
        Check.shop(x, "wa;wb;wa;wb<0<2");
        x.before(1, 0, true);
        x.before(1, 2, true);
        CHECK.due("b around a", x.best(0), 2);
        CHECK.due("3 need not be behind 0", x.why(0, 3), 2);
        CHECK.due("as it was", x.many(2), 4);
    }

    private static void asksCheapest() {
        OpenPots x = rowOf("wab;wc;wab");
        CHECK.says(20, "CHEAPEST of an ORDER with ROOM r; NONE: some WORK NEEDS more.");
        int[] due = {NONE, NONE, 10, 0, 0};
        for (int r = 0; r < due.length; r++) {
            CHECK.due("cheapest(0, " + r + ")", x.cheapest(0, r), due[r]);
        }
        CHECK.due("with the most ROOM", x.cheapest(0, 99), 0);
        x.before(2, 0, true);
        CHECK.due("of one that is not LAWFUL", x.cheapest(0, 2), 10);
        OpenPots two = rowOf("wa;wb;wa;wb;wa");
        Check.order(two, 0, 0, 2, 4, 1, 3);
        CHECK.due("of the first of two", two.cheapest(0, 1), 10 + 11 + 10);
        CHECK.due("of the second of two", two.cheapest(1, 1), 0);
        CHECK.due("of the first again", two.cheapest(0, 1), 10 + 11 + 10);
        CHECK.due("a last work that NEEDS more", rowOf("w;wa;wab").cheapest(0, 1), NONE);
        CHECK.due("a first work that NEEDS more", rowOf("wab;wa;w").cheapest(0, 1), NONE);
        CHECK.says(20, "UNKNOWN;");
        CHECK.due("order -1", x.cheapest(-1, 9), UNKNOWN);
        CHECK.due("order 1", x.cheapest(1, 9), UNKNOWN);
        CHECK.says(20, "OUTSIDE.");
        CHECK.due("r -1", x.cheapest(0, -1), OUTSIDE);
        CHECK.due("r 100", x.cheapest(0, 100), OUTSIDE);
        for (int far : FAR_OFF) {
            CHECK.due("order " + far, x.cheapest(far, 9), UNKNOWN);
            CHECK.due("r " + far, x.cheapest(0, far), OUTSIDE);
        }
    }

    private static void asksRoom() {
        OpenPots x = rowOf("wa;wb;wa;wc;wa;sb3");
        CHECK.says(21, "The least ROOM with which an ORDER costs no more than p (0 .. 9999).");
        // Room 3: a is closed beside b alone; room 4: not at all.
        int[][] due = {{0, 4}, {9, 4}, {10, 3}, {11, 3}, {9999, 3}};
        for (int[] one : due) {
            CHECK.due("room(0, " + one[0] + ")", x.room(0, one[0]), one[1]);
        }
        x.thing(1, 0, 1);
        int[][] small = {{0, 2}, {19, 2}, {20, 1}, {9999, 1}};
        for (int[] one : small) {
            CHECK.due("room(0, " + one[0] + ") of small ones", x.room(0, one[0]), one[1]);
        }
        Check.order(x, 0, 0, 2, 4, 1, 3);
        CHECK.due("of another one", x.room(1, 0), 1);
        CHECK.due("of the first again", x.room(0, 0), 2);
        CHECK.due("of the other again", x.room(1, 0), 1);
        x.thing(0, 1, 0);
        CHECK.due("all for nothing", x.room(0, 0), 1);
        CHECK.due("of nothing", rowOf(NINE).room(0, 0), 0);
        OpenPots all = rowOf("wabcdefghij;w;wabcdefghij");
        for (int t = 0; t < 10; t++) {
            all.thing(t, 0, 9);
        }
        CHECK.due("of all, for nothing", all.room(0, 0), 90);
        CHECK.due("of all, for the most", all.room(0, 9999), 90);
        CHECK.says(21, "UNKNOWN;");
        CHECK.due("order -1", x.room(-1, 0), UNKNOWN);
        CHECK.due("order 2", x.room(2, 0), UNKNOWN);
        CHECK.says(21, "OUTSIDE.");
        CHECK.due("p -1", x.room(0, -1), OUTSIDE);
        CHECK.due("p 10000", x.room(0, 10000), OUTSIDE);
        for (int far : FAR_OFF) {
            CHECK.due("order " + far, x.room(far, 0), UNKNOWN);
            CHECK.due("p " + far, x.room(0, far), OUTSIDE);
        }
    }

    private static void asksTwo() {
        CHECK.says(22, "TWO tables: 0 the greater MOST, 1 the set at the first, 2, 3 MOST of the first, the second.");
        tables("wabc;wd", 3, 1, 3, 1);
        tables("wd;wabc", 3, 1, 1, 3);
        tables("w", 0, 1, 0, 0);
        OpenPots x = Check.shopOf("wabc;wd");
        CHECK.due("the greater", x.two(0), 3);
        x.thing(3, 0, 9);
        CHECK.due("by another SIZE", x.two(0), 9);
        CHECK.due("the second now", x.two(3), 9);
        CHECK.says(22, "STATE: there are no WORKS;");
        for (int what = 0; what < 4; what++) {
            CHECK.due("two(" + what + ") of none", new OpenPots().two(what), STATE);
        }
        CHECK.says(22, "OUTSIDE.");
        CHECK.due("two(-1)", x.two(-1), OUTSIDE);
        CHECK.due("two(4)", x.two(4), OUTSIDE);
        for (int far : FAR_OFF) {
            CHECK.due("two(" + far + ")", x.two(far), OUTSIDE);
        }
    }

    private static void asksWithout() {
        CHECK.says(23, "MOST WITHOUT a WORK (0: there is no other one).");
        CHECK.due("no other one", Check.shopOf("wabc").without(0), 0);
        OpenPots x = Check.shopOf("wabc;wd");
        CHECK.due("without(0)", x.without(0), 1);
        CHECK.due("without(1)", x.without(1), 3);
        CHECK.due("they stay", x.many(0), 2);
        CHECK.due("the last of nine", Check.shopOf(NINE + "abcdefghij").without(8), 0);
        CHECK.due("the first of nine", Check.shopOf(NINE + "abcdefghij").without(0), 10);
        CHECK.says(23, "UNKNOWN.");
        CHECK.due("without(-1)", x.without(-1), UNKNOWN);
        CHECK.due("without(2)", x.without(2), UNKNOWN);
        CHECK.due("without(0) of none", new OpenPots().without(0), UNKNOWN);
        for (int far : FAR_OFF) {
            CHECK.due("without(" + far + ")", x.without(far), UNKNOWN);
        }
    }

    private static void asksWhy() {
        OpenPots x = Check.shopOf("wa;wbc<0;wa<1;wd");
        CHECK.says(24, "MOST without the BEFORE of a WORK to another one.");
        CHECK.due("with it", x.best(0), 3);
        CHECK.due("why(0, 1)", x.why(0, 1), 2);
        CHECK.due("why(1, 2)", x.why(1, 2), 2);
        CHECK.due("they stay", x.many(2), 2);
        CHECK.due("with it still", x.best(0), 3);
        x.before(3, 0, true);
        CHECK.due("one that does not matter", x.why(3, 0), 3);
        CHECK.says(24, "UNKNOWN;");
        for (int none : new int[] {-1, 4, Integer.MIN_VALUE, Integer.MAX_VALUE}) {
            CHECK.due("of " + none, x.why(none, 1), UNKNOWN);
            CHECK.due("to " + none, x.why(0, none), UNKNOWN);
        }
        CHECK.says(24, "STATE: there is none.");
        CHECK.due("the other way", x.why(1, 0), STATE);
        CHECK.due("over another one", x.why(0, 2), STATE);
        CHECK.due("to itself", x.why(0, 0), STATE);
        CHECK.due("no more", x.before(0, 1, false), 1);
        CHECK.due("none now", x.why(0, 1), STATE);
    }

    private static void asksWidest() {
        CHECK.says(25, "The WORK WITHOUT which MOST is least;");
        CHECK.due("the first", Check.shopOf("wabc;wd;we").widest(), 0);
        CHECK.due("the last of nine", Check.shopOf(NINE + "a").widest(), 8);
        OpenPots x = Check.shopOf("wa;wbc<0;wa<1;wde;sb4");
        CHECK.due("the one in the middle", x.widest(), 1);
        CHECK.says(25, "of several the first;");
        CHECK.due("all alike", Check.shopOf("wab;wcd;wef").widest(), 0);
        CHECK.due("each of nine", Check.shopOf(NINE).widest(), 0);
        CHECK.due("two of them", Check.shopOf("wd;wa;wbc<1;wa<2;wef").widest(), 1);
        CHECK.due("only one", Check.shopOf("wabc").widest(), 0);
        CHECK.says(25, "NONE: there are none.");
        CHECK.due("of none", new OpenPots().widest(), NONE);
    }
}
