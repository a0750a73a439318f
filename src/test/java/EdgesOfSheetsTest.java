import java.util.function.ToLongFunction;

/** Section 6 of "Terms" and promises 26 to 35, sentence by sentence. */
public final class EdgesOfSheetsTest {
    private static final int UNKNOWN = -1, OUTSIDE = -2;
    private static final long LOST = Long.MIN_VALUE;
    private static final int[] FAR_OFF = {Integer.MIN_VALUE, Integer.MAX_VALUE};
    private static final Check CHECK = new Check();

    public static void main(String[] args) {
        rowsOfSheets();
        lanes();
        telling();
        showing();
        asksSheet();
        refusedSheets();
        asksLose();
        asksPut();
        asksCell();
        asksTell();
        asksShow();
        asksAs();
        asksTrace();
        asksFault();
        faultStays();
        asksMany();
        CHECK.end();
    }

    private static void rowsOfSheets() {
        CHECK.says(0, "SHEETS 0 .. 3 have nothing (at first), or a row of 0 .. 60 numbers (0 at first) of a LANE: 0 bytes,"
                + " 1 shorts, 2 ints;");
        OpenPots x = new OpenPots();
        for (int k = 0; k < 4; k++) {
            CHECK.due("put to nothing", x.put(k, 0, 1), -11);
            CHECK.due("no cell", x.sheet(k, k % 3, 0), 1);
            CHECK.due("put to a row of none", x.put(k, 0, 1), -13);
            CHECK.due("one cell", x.sheet(k, k % 3, 1), 1);
            CHECK.due("it is 0", x.cell(k, 0, k % 3), 0);
            CHECK.due("sixty cells", x.sheet(k, k % 3, 60), 1);
            for (int i = 0; i < 60; i++) {
                CHECK.due("cell " + i + " is 0", x.cell(k, i, k % 3), 0);
            }
            CHECK.due("no cell 60", x.cell(k, 60, k % 3), LOST);
            CHECK.due("sixty-one", x.sheet(k, k % 3, 61), OUTSIDE);
        }
        CHECK.due("sheet -1", x.sheet(-1, 0, 1), UNKNOWN);
        CHECK.due("sheet 4", x.sheet(4, 0, 1), UNKNOWN);
    }

    private static void lanes() {
        CHECK.says(0, "what comes to a cell of it is cut to its LANE.");
        int[] puts = {0, 1, -1, 127, 128, 129, 255, 256, 257, -128, -129, -256, 32767, 32768, 32769, 65535, 65536, -32768,
            -32769, Integer.MAX_VALUE, Integer.MIN_VALUE};
        int[] bytes = {0, 1, -1, 127, -128, -127, -1, 0, 1, -128, 127, 0, -1, 0, 1, -1, 0, 0, -1, -1, 0};
        int[] shorts = {0, 1, -1, 127, 128, 129, 255, 256, 257, -128, -129, -256, 32767, -32768, -32767, -1, 0, -32768,
            32767, -1, 0};
        int[][] cut = {bytes, shorts, puts};
        for (int lane = 0; lane < 3; lane++) {
            OpenPots x = new OpenPots();
            x.sheet(0, lane, puts.length);
            for (int i = 0; i < puts.length; i++) {
                CHECK.due("put", x.put(0, i, puts[i]), 1);
                CHECK.due(puts[i] + " in lane " + lane, x.cell(0, i, lane), cut[lane][i]);
            }
        }
    }

    private static OpenPots threeKinds() {
        OpenPots x = Check.shopOf("wab;wbc");
        for (int kind = 0; kind < 3; kind++) {
            Check.order(x, kind, 0, 1);
        }
        return x;
    }

    private static void told(int o, int told, int trace) {
        OpenPots x = threeKinds();
        CHECK.due("tell(" + o + ")", x.tell(o), told);
        CHECK.due("trace()", x.trace(), trace);
    }

    private static void telling() {
        CHECK.says(0, "TELLING of ORDERS by bodies that leave their number in TRACE (an int that wraps, 0 at first, becomes"
                + " 31 times it and the number) as they begin:");
        OpenPots x = threeKinds();
        CHECK.due("0 at first", x.trace(), 0);
        x.tell(0);
        CHECK.due("the first number", x.trace(), 1);
        x.tell(0);
        CHECK.due("31 times it and the number", x.trace(), 32);
        // The fifth of these is the last that an int holds.
        int[] trace = {993, 30784, 954305, 29583456, 917087137, -1635069824, 852443009};
        for (int due : trace) {
            x.tell(0);
            CHECK.due("trace()", x.trace(), due);
        }
        CHECK.says(0, "ROW (1): its MOST.");
        told(0, 2, 1);
        CHECK.says(0, "BEFORE (2): what ROW's gives, and 1000.");
        told(1, 1002, 2 * 31 + 1);
        CHECK.says(0, "AGAIN (3): what BEFORE's gives, and what ROW's gives (BEFORE's left out).");
        told(2, 1004, ((3 * 31 + 2) * 31 + 1) * 31 + 1);
    }

    private static void showing() {
        CHECK.says(0, "SHOWN by a lent body (4): its number;");
        OpenPots x = threeKinds();
        CHECK.due("a ROW", x.show(0), 0);
        CHECK.due("trace()", x.trace(), 4);
        CHECK.due("a BEFORE", x.show(1), 1);
        CHECK.due("trace()", x.trace(), 4 * 31 + 4);
        CHECK.says(0, "AGAIN ones have their own (5): 80.");
        CHECK.due("an AGAIN", x.show(2), 80);
        CHECK.due("trace()", x.trace(), (4 * 31 + 4) * 31 + 5);
        for (int o = 3; o < 8; o++) {
            Check.order(x, o == 7 ? 2 : 0, 0, 1);
            CHECK.due("show(" + o + ")", x.show(o), o == 7 ? 80 : o);
        }
    }

    private static void asksSheet() {
        CHECK.says(26, "A SHEET gets a new row: 1.");
        OpenPots x = new OpenPots();
        for (int lane = 0; lane < 3; lane++) {
            CHECK.due("a row", x.sheet(2, lane, 60), 1);
            for (int other = 0; other < 3; other++) {
                CHECK.due("its lane", x.cell(2, 59, other), other == lane ? 0 : LOST);
            }
            x.put(2, 0, 7);
            x.put(2, 59, 7);
            CHECK.due("the same anew", x.sheet(2, lane, 60), 1);
            CHECK.due("first cell", x.cell(2, 0, lane), 0);
            CHECK.due("last cell", x.cell(2, 59, lane), 0);
            x.put(2, 59, 7);
            CHECK.due("a shorter one", x.sheet(2, lane, 59), 1);
            CHECK.due("no more cell 59", x.cell(2, 59, lane), LOST);
            CHECK.due("a longer one", x.sheet(2, lane, 60), 1);
            CHECK.due("cell 59 is 0", x.cell(2, 59, lane), 0);
        }
        x.sheet(1, 0, 1);
        x.put(1, 0, 9);
        x.sheet(2, 0, 1);
        CHECK.due("another one has its own", x.cell(1, 0, 0), 9);
    }

    private static void refusedSheets() {
        OpenPots x = new OpenPots();
        CHECK.says(26, "UNKNOWN;");
        CHECK.due("sheet -1", x.sheet(-1, 0, 1), UNKNOWN);
        CHECK.due("sheet 4", x.sheet(4, 0, 1), UNKNOWN);
        CHECK.says(26, "OUTSIDE: lane, n above 60;");
        CHECK.due("lane -1", x.sheet(0, -1, 1), OUTSIDE);
        CHECK.due("lane 3", x.sheet(0, 3, 1), OUTSIDE);
        CHECK.due("n 61", x.sheet(0, 0, 61), OUTSIDE);
        CHECK.due("fault()", x.fault(), 0);
        CHECK.due("n 60", x.sheet(0, 0, 60), 1);
        for (int far : FAR_OFF) {
            CHECK.due("sheet " + far, x.sheet(far, 0, 1), UNKNOWN);
            CHECK.due("lane " + far, x.sheet(0, far, 1), OUTSIDE);
        }
        CHECK.due("n far above", x.sheet(0, 0, Integer.MAX_VALUE), OUTSIDE);
        CHECK.says(26, "SIZE.");
        CHECK.due("n -1", x.sheet(0, 0, -1), -14);
        CHECK.due("fault()", x.fault(), 4);
        CHECK.due("n far below", x.sheet(0, 0, Integer.MIN_VALUE), -14);
        CHECK.due("n 0", x.sheet(0, 0, 0), 1);
        CHECK.due("fault()", x.fault(), 0);
    }

    private static void asksLose() {
        CHECK.says(27, "A SHEET has nothing: 1; 0: it had nothing.");
        OpenPots x = new OpenPots();
        for (int k = 0; k < 4; k++) {
            CHECK.due("it had nothing", x.lose(k), 0);
            x.sheet(k, 1, k == 2 ? 0 : 5);
            CHECK.due("it had something", x.lose(k), 1);
            CHECK.due("no row", x.put(k, 0, 1), -11);
            CHECK.due("it had nothing", x.lose(k), 0);
            x.sheet(k, 1, 5);
        }
        x.lose(1);
        CHECK.due("another one keeps its own", x.cell(0, 4, 1), 0);
        CHECK.due("another one keeps its own", x.cell(2, 4, 1), 0);
        CHECK.says(27, "UNKNOWN.");
        for (int none : new int[] {-1, 4, Integer.MIN_VALUE, Integer.MAX_VALUE}) {
            CHECK.due("lose(" + none + ")", x.lose(none), UNKNOWN);
        }
    }

    private static void asksPut() {
        CHECK.says(28, "Cell i of a SHEET becomes v: 1.");
        OpenPots x = new OpenPots();
        for (int k = 0; k < 4; k++) {
            x.sheet(k, 2, 3);
        }
        CHECK.due("first", x.put(3, 0, -5), 1);
        CHECK.due("last", x.put(3, 2, 5), 1);
        int[] due = {-5, 0, 5};
        for (int i = 0; i < 3; i++) {
            CHECK.due("cell " + i, x.cell(3, i, 2), due[i]);
            CHECK.due("of another one", x.cell(2, i, 2), 0);
        }
        CHECK.due("once more", x.put(3, 2, 6), 1);
        CHECK.due("cell 2", x.cell(3, 2, 2), 6);
        CHECK.says(28, "UNKNOWN;");
        for (int none : new int[] {-1, 4, Integer.MIN_VALUE, Integer.MAX_VALUE}) {
            CHECK.due("put(" + none + ", 0, 0)", x.put(none, 0, 0), UNKNOWN);
        }
        CHECK.says(28, "NULL;");
        x.lose(0);
        CHECK.due("to nothing", x.put(0, 0, 1), -11);
        CHECK.due("fault()", x.fault(), 1);
        CHECK.says(28, "INDEX.");
        for (int i : new int[] {-1, 3, 60, Integer.MIN_VALUE, Integer.MAX_VALUE}) {
            CHECK.due("cell " + i, x.put(3, i, 1), -13);
            CHECK.due("fault()", x.fault(), 3);
        }
        x.sheet(0, 0, 0);
        CHECK.due("of a row of none", x.put(0, 0, 1), -13);
    }

    private static void lost(OpenPots x, int k, int i, int lane, int fault) {
        CHECK.due("cell(" + k + ", " + i + ", " + lane + ")", x.cell(k, i, lane), LOST);
        CHECK.due("its fault()", x.fault(), fault);
    }

    private static void asksCell() {
        CHECK.says(29, "Cell i of what a SHEET has, taken as a row of a LANE.");
        OpenPots x = new OpenPots();
        for (int lane = 0; lane < 3; lane++) {
            x.sheet(lane, lane, 2);
            x.put(lane, 1, -3);
            CHECK.due("cell 0", x.cell(lane, 0, lane), 0);
            CHECK.due("cell 1", x.cell(lane, 1, lane), -3);
            CHECK.due("fault()", x.fault(), 0);
        }
        x.put(2, 0, Integer.MIN_VALUE);
        CHECK.due("the least int is not LOST", x.cell(2, 0, 2), Integer.MIN_VALUE);
        CHECK.says(29, "LOST: UNKNOWN, OUTSIDE: lane;");
        for (int none : new int[] {-1, 4, Integer.MIN_VALUE, Integer.MAX_VALUE}) {
            lost(x, none, 0, 0, 0);
        }
        for (int none : new int[] {-1, 3, Integer.MIN_VALUE, Integer.MAX_VALUE}) {
            lost(x, 0, 0, none, 0);
            lost(x, 3, 0, none, 0);
        }
        CHECK.says(29, "FAULTS CAST (nothing is no CAST), NULL, INDEX.");
        for (int lane = 0; lane < 3; lane++) {
            lost(x, 3, 0, lane, 1);
            lost(x, lane, 0, (lane + 1) % 3, 2);
            lost(x, lane, 0, (lane + 2) % 3, 2);
            lost(x, lane, 2, lane, 3);
            lost(x, lane, -1, lane, 3);
        }
        lost(x, 0, Integer.MIN_VALUE, 0, 3);
        lost(x, 0, Integer.MAX_VALUE, 0, 3);
        lost(x, 0, 2, 1, 2);
        lost(x, 3, 2, 1, 1);
        x.sheet(3, 1, 0);
        lost(x, 3, 0, 1, 3);
    }

    private static void asksTell() {
        CHECK.says(30, "TELLING of an ORDER.");
        OpenPots x = threeKinds();
        x.thing(1, 0, 9);
        int[] due = {10, 1010, 1020};
        for (int o = 0; o < 3; o++) {
            CHECK.due("by SIZES now", x.tell(o), due[o]);
        }
        OpenPots nothing = Check.shopOf("w");
        for (int kind = 0; kind < 3; kind++) {
            Check.order(nothing, kind, 0);
            CHECK.due("MOST is 0", nothing.tell(kind), kind == 0 ? 0 : 1000);
        }
        OpenPots all = Check.shopOf("wabcdefghij");
        for (int t = 0; t < 10; t++) {
            all.thing(t, 0, 9);
        }
        Check.order(all, 2, 0);
        CHECK.due("MOST is 90", all.tell(0), 1180);
        all.work(0, 0);
        all.build(0, 1);
        CHECK.due("one built is a BEFORE", all.tell(0), 1090);
        CHECK.says(30, "UNKNOWN.");
        for (int none : new int[] {-1, 3, 8, Integer.MIN_VALUE, Integer.MAX_VALUE}) {
            CHECK.due("tell(" + none + ")", threeKinds().tell(none), UNKNOWN);
        }
    }

    private static void asksShow() {
        CHECK.says(31, "How it is SHOWN.");
        OpenPots x = threeKinds();
        int[] due = {0, 1, 80, 3, 4};
        x.build(0, 1);
        x.move(2);
        for (int o = 0; o < 5; o++) {
            CHECK.due("show(" + o + ")", x.show(o), due[o]);
        }
        CHECK.says(31, "UNKNOWN.");
        for (int none : new int[] {-1, 5, 8, Integer.MIN_VALUE, Integer.MAX_VALUE}) {
            CHECK.due("show(" + none + ")", x.show(none), UNKNOWN);
        }
    }

    private static void asksAs() {
        OpenPots x = threeKinds();
        CHECK.says(32, "An ORDER, taken as one of a kind: 1.");
        for (int o = 0; o < 3; o++) {
            CHECK.due("as its own kind", x.as(o, o), 1);
            CHECK.due("its kind stays", x.ofOrder(o, 0), o);
        }
        CHECK.says(32, "UNKNOWN;");
        for (int none : new int[] {-1, 3, 8, Integer.MIN_VALUE, Integer.MAX_VALUE}) {
            CHECK.due("as(" + none + ", 0)", x.as(none, 0), UNKNOWN);
            CHECK.due("fault()", x.fault(), 0);
        }
        CHECK.says(32, "OUTSIDE;");
        for (int kind : new int[] {-1, 3, Integer.MIN_VALUE, Integer.MAX_VALUE}) {
            for (int o = 0; o < 3; o++) {
                CHECK.due("as(" + o + ", " + kind + ")", x.as(o, kind), OUTSIDE);
            }
        }
        CHECK.says(32, "CAST: it is none (each is a ROW, too; an AGAIN one is a BEFORE).");
        int[][] due = {{1, -12, -12}, {1, 1, -12}, {1, 1, 1}};
        for (int o = 0; o < 3; o++) {
            for (int kind = 0; kind < 3; kind++) {
                CHECK.due("as(" + o + ", " + kind + ")", x.as(o, kind), due[o][kind]);
                CHECK.due("fault()", x.fault(), due[o][kind] == 1 ? 0 : 2);
            }
        }
        x.before(1, 0, true);
        CHECK.due("one not LAWFUL now is a BEFORE still", x.as(1, 1), 1);
    }

    private static void asksTrace() {
        CHECK.says(33, "TRACE.");
        OpenPots x = threeKinds();
        CHECK.due("trace() at first", x.trace(), 0);
        x.tell(3);
        x.show(-1);
        CHECK.due("of none", x.trace(), 0);
        int due = 0;
        // Past where an int wraps, many times over.
        for (int turn = 0; turn < 30; turn++) {
            x.tell(2);
            x.show(turn % 3);
            int[] bodies = {3, 2, 1, 1, turn % 3 == 2 ? 5 : 4};
            for (int body : bodies) {
                due = 31 * due + body;
            }
            CHECK.due("trace() after turn " + turn, x.trace(), due);
        }
        Check.shop(x, "w");
        CHECK.due("another shop leaves it", x.trace(), due);
        CHECK.due("asked again", x.trace(), due);
    }

    private static OpenPots withFault() {
        OpenPots x = threeKinds();
        x.sheet(0, 0, -1);
        return x;
    }

    private static void faultBehind(String call, ToLongFunction<OpenPots> asked, int fault) {
        OpenPots x = withFault();
        asked.applyAsLong(x);
        CHECK.due("fault() behind " + call, x.fault(), fault);
        CHECK.due("asked again", x.fault(), fault);
    }

    private static void asksFault() {
        CHECK.says(34, "The FAULT of the latest call that names one:");
        faultBehind("nothing more", x -> 0, 4);
        faultBehind("shop", x -> x.shop(3, 0, 0, 8), 3);
        faultBehind("order", x -> x.order(0, 2, 1, 0, 2), 2);
        faultBehind("sheet", x -> x.sheet(0, 0, -1), 4);
        faultBehind("put", x -> x.put(1, 0, 0), 1);
        faultBehind("cell", x -> x.cell(2, 2, 2), 3);
        faultBehind("as", x -> x.as(0, 1), 2);
        CHECK.says(34, "0: it came to none,");
        faultBehind("shop", x -> x.shop(3, 0, 0, 7), 0);
        faultBehind("shop of a wrong text", x -> x.shop(3, 0, 0, 4), 0);
        faultBehind("order", x -> x.order(0, 2, 2, 0, 2), 0);
        faultBehind("sheet", x -> x.sheet(0, 0, 1), 0);
        faultBehind("put", x -> x.put(3, 0, 0), 0);
        faultBehind("cell", x -> x.cell(3, 0, 0), 0);
        faultBehind("as", x -> x.as(0, 0), 0);
        CHECK.says(34, "or was refused (0 ahead of any).");
        CHECK.due("ahead of any", new OpenPots().fault(), 0);
        faultBehind("shop", x -> x.shop(4, 0, 0, 7), 0);
        faultBehind("shop", x -> x.shop(3, 3, 0, 7), 0);
        faultBehind("order", x -> x.order(0, 4, 2, 0, 2), 0);
        faultBehind("order", x -> x.order(3, 2, 2, 0, 2), 0);
        faultBehind("order", x -> x.order(0, 2, 2, 0, 1), 0);
        faultBehind("sheet", x -> x.sheet(4, 0, -1), 0);
        faultBehind("sheet", x -> x.sheet(0, 3, -1), 0);
        faultBehind("sheet", x -> x.sheet(0, 0, 61), 0);
        faultBehind("put", x -> x.put(4, 0, 0), 0);
        faultBehind("cell", x -> x.cell(4, 0, 0), 0);
        faultBehind("cell", x -> x.cell(0, 0, 3), 0);
        faultBehind("as", x -> x.as(3, 0), 0);
        faultBehind("as", x -> x.as(0, 3), 0);
    }

    private static void faultStays() {
        CHECK.says(34, "of the latest call that names one");
        faultBehind("work", x -> x.work(0, 0), 4);
        faultBehind("work refused", x -> x.work(-1, 0), 4);
        faultBehind("ofWork", x -> x.ofWork(0, 0) + x.ofWork(9, 0), 4);
        faultBehind("before", x -> x.before(0, 1, true) + x.before(1, 0, true), 4);
        faultBehind("thing", x -> x.thing(0, 0, 2) + x.thing(10, 0, 2), 4);
        faultBehind("ofOrder", x -> x.ofOrder(0, 0) + x.ofOrder(8, 0), 4);
        faultBehind("best", x -> x.best(0) + x.best(10) + x.best(2), 4);
        faultBehind("from", x -> x.from(0, 1, 0) + x.from(0, 3, 0), 4);
        faultBehind("better", x -> x.better(0, 1) + x.better(0, 8), 4);
        faultBehind("cross", x -> x.cross(0) + x.cross(3), 4);
        faultBehind("knot", x -> x.knot(0) + x.knot(2), 4);
        faultBehind("bound, within, widest", x -> x.bound() + x.within() + x.widest(), 4);
        faultBehind("part", x -> x.part(-1) + x.part(9), 4);
        faultBehind("build", x -> x.build(0, 1) + x.build(3, 1), 4);
        faultBehind("move", x -> x.move(0) + x.move(8), 4);
        faultBehind("moves", x -> x.moves(0) + x.moves(8), 4);
        faultBehind("cheapest", x -> x.cheapest(0, 0) + x.cheapest(0, 100), 4);
        faultBehind("room", x -> x.room(0, 0) + x.room(0, -1), 4);
        faultBehind("two", x -> x.two(0) + x.two(4), 4);
        faultBehind("without", x -> x.without(0) + x.without(9), 4);
        faultBehind("why", x -> x.why(0, 1) + x.why(9, 0), 4);
        faultBehind("lose", x -> x.lose(2) + x.lose(2) + x.lose(4), 4);
        faultBehind("tell", x -> x.tell(0) + x.tell(8), 4);
        faultBehind("show", x -> x.show(0) + x.show(8), 4);
        faultBehind("trace", OpenPots::trace, 4);
        faultBehind("many", x -> x.many(0) + x.many(4), 4);
    }

    private static void many(OpenPots x, int... due) {
        for (int what = 0; what < 4; what++) {
            CHECK.due("many(" + what + ")", x.many(what), due[what]);
        }
    }

    private static void asksMany() {
        CHECK.says(35, "How many: 0 WORKS, 1 ORDERS, 2 BEFORES (of all WORKS), 3 THINGS that some WORK NEEDS.");
        OpenPots x = new OpenPots();
        many(x, 0, 0, 0, 0);
        Check.shop(x, "w;sa9");
        many(x, 1, 0, 0, 0);
        x.work(515, 1);
        x.work(2, 3);
        x.build(0, 1);
        many(x, 3, 1, 3, 3);
        x.before(0, 2, false);
        many(x, 3, 1, 2, 3);
        Check.shop(x, "wabcdefghij");
        for (int w = 1; w < 9; w++) {
            x.work(0, (1 << w) - 1);
        }
        for (int o = 0; o < 8; o++) {
            x.build(0, 1);
        }
        many(x, 9, 8, 36, 10);
        CHECK.says(35, "OUTSIDE.");
        for (int what : new int[] {-1, 4, Integer.MIN_VALUE, Integer.MAX_VALUE}) {
            CHECK.due("many(" + what + ")", x.many(what), OUTSIDE);
        }
    }
}
