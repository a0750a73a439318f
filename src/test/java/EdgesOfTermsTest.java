import java.util.function.Supplier;
import java.util.function.ToLongFunction;

/** The head of "Terms": refusals and faults, their order, and that they change nothing. */
public final class EdgesOfTermsTest {
    private static final int UNKNOWN = -1, OUTSIDE = -2, STATE = -3, FULL = -4;
    private static final long LOST = Long.MIN_VALUE;
    private static final Check CHECK = new Check();

    public static void main(String[] args) {
        refusalsInTheirOrder();
        refusalsOfOrdersInTheirOrder();
        refusalsChangeNothing();
        refusedOrdersChangeNothing();
        refusalsOfFaultingCallsChangeNothing();
        fullOnesChangeNothing();
        numbersOfFaults();
        firstFaultOfSeveral();
        faultsChangeNothing();
        numbersAndBits();
        fiveHundredAndTwelve();
        CHECK.end();
    }

    /**
     * Four works, three orders (the first is not LAWFUL), rows of every LANE on SHEETS 0 to 2 and nothing on 3; the
     * latest fault is INDEX.
     */
    private static OpenPots rich() {
        OpenPots x = new OpenPots();
        Check.shop(x, "wab;wbc<0;wcd;wda<1;sb2;sj9");
        x.thing(2, 0, 3);
        x.thing(3, 1, 40);
        Check.order(x, 0, 3, 2, 1, 0);
        Check.order(x, 1, 0, 1, 2, 3);
        Check.order(x, 2, 2, 0, 1, 3);
        putRow(x, 0, 0, 0, 1, 2, 3, 4);
        putRow(x, 1, 1, 3, 3, 0, 4, 1, 0, 2);
        x.lose(3);
        x.tell(2);
        x.put(0, 5, 1);
        return x;
    }

    /** Nine works and eight orders of them. */
    private static OpenPots full() {
        OpenPots x = new OpenPots();
        for (int w = 0; w < 9; w++) {
            x.work(1 << w, 0);
        }
        for (int o = 0; o < 8; o++) {
            x.build(o % 3, 9);
        }
        putRow(x, 0, 0, 0, 1, 2, 3, 4, 5, 6, 7, 8);
        putRow(x, 1, 0, 1, 1, 2, 3, 4, 5, 6, 7, 8);
        putRow(x, 2, 0, 1, 1, 2, 3, 4, 5, 6, 7, 9);
        x.show(7);
        return x;
    }

    /** As full(), but no order is LAWFUL any more. */
    private static OpenPots fullAndUnlawful() {
        OpenPots x = full();
        x.before(8, 0, true);
        return x;
    }

    private static void putRow(OpenPots x, int k, int lane, int... row) {
        x.sheet(k, lane, row.length);
        for (int i = 0; i < row.length; i++) {
            x.put(k, i, row[i]);
        }
    }

    private static void due(Supplier<OpenPots> made, String call, ToLongFunction<OpenPots> asked, long want) {
        CHECK.due(call, asked.applyAsLong(made.get()), want);
    }

    private static void refusalsInTheirOrder() {
        CHECK.says(0, "REFUSALS, in the order in which a call's line tells them: UNKNOWN (there is no such WORK, THING,"
                + " ORDER, SHEET, place), OUTSIDE (another number is not as told), STATE (as told), FULL;");
        Supplier<OpenPots> rich = EdgesOfTermsTest::rich;
        Supplier<OpenPots> none = OpenPots::new;
        due(rich, "shop: UNKNOWN first", x -> x.shop(4, 3, -1, -1), UNKNOWN);
        due(rich, "shop: OUTSIDE ahead of CAST", x -> x.shop(0, 3, -1, -1), OUTSIDE);
        due(rich, "shop: OUTSIDE ahead of NULL", x -> x.shop(3, -1, -1, -1), OUTSIDE);
        due(EdgesOfTermsTest::full, "work: OUTSIDE ahead of FULL", x -> x.work(1024, 0), OUTSIDE);
        due(EdgesOfTermsTest::full, "work: OUTSIDE ahead of FULL", x -> x.work(0, 512), OUTSIDE);
        due(rich, "ofWork: UNKNOWN first", x -> x.ofWork(4, 2), UNKNOWN);
        due(rich, "before: UNKNOWN ahead of OUTSIDE", x -> x.before(4, 4, true), UNKNOWN);
        due(rich, "before: OUTSIDE ahead of STATE", x -> x.before(1, 1, true), OUTSIDE);
        due(rich, "thing: UNKNOWN first", x -> x.thing(10, 2, 0), UNKNOWN);
        due(none, "best: STATE ahead of OUTSIDE", x -> x.best(2), STATE);
        due(rich, "from: UNKNOWN first", x -> x.from(3, 5, 3), UNKNOWN);
        due(rich, "from: OUTSIDE ahead of STATE", x -> x.from(0, 1, 3), OUTSIDE);
        due(none, "build: OUTSIDE ahead of STATE", x -> x.build(3, 1), OUTSIDE);
        due(none, "build: OUTSIDE ahead of STATE", x -> x.build(0, 0), OUTSIDE);
        due(EdgesOfTermsTest::full, "build: OUTSIDE ahead of FULL", x -> x.build(0, 10), OUTSIDE);
        due(EdgesOfTermsTest::fullAndUnlawful, "move: UNKNOWN first", x -> x.move(8), UNKNOWN);
        due(EdgesOfTermsTest::fullAndUnlawful, "move: STATE ahead of FULL", x -> x.move(0), STATE);
        due(rich, "cheapest: UNKNOWN first", x -> x.cheapest(3, 100), UNKNOWN);
        due(rich, "room: UNKNOWN first", x -> x.room(3, -1), UNKNOWN);
        due(none, "two: STATE ahead of OUTSIDE", x -> x.two(4), STATE);
        due(rich, "why: UNKNOWN ahead of STATE", x -> x.why(4, 4), UNKNOWN);
        due(rich, "sheet: UNKNOWN first", x -> x.sheet(4, 3, -1), UNKNOWN);
        due(rich, "sheet: OUTSIDE ahead of SIZE", x -> x.sheet(0, 3, -1), OUTSIDE);
        due(rich, "put: UNKNOWN first", x -> x.put(4, -1, 0), UNKNOWN);
        due(rich, "as: UNKNOWN first", x -> x.as(3, 3), UNKNOWN);
        due(rich, "as: OUTSIDE ahead of CAST", x -> x.as(0, 3), OUTSIDE);
    }

    private static void refusalsOfOrdersInTheirOrder() {
        CHECK.says(7, "UNKNOWN: SHEET; OUTSIDE: kind, lane; FAULTS as shop(); OUTSIDE: n is not how many WORKS there are"
                + " (0, too); UNKNOWN: a WORK; STATE: one comes twice, it is not LAWFUL (but of a ROW); FULL.");
        Supplier<OpenPots> full = EdgesOfTermsTest::full;
        due(full, "UNKNOWN: SHEET first", x -> x.order(3, 4, 3, -1, -1), UNKNOWN);
        due(full, "OUTSIDE: kind ahead of NULL", x -> x.order(3, 3, 0, -1, -1), OUTSIDE);
        due(full, "OUTSIDE: lane ahead of NULL", x -> x.order(0, 3, 3, -1, -1), OUTSIDE);
        due(full, "OUTSIDE: lane ahead of CAST", x -> x.order(0, 0, 3, -1, -1), OUTSIDE);
        due(full, "NULL ahead of SIZE", x -> x.order(0, 3, 0, -1, -1), -11);
        due(full, "CAST ahead of SIZE", x -> x.order(0, 0, 1, -1, -1), -12);
        due(full, "SIZE ahead of INDEX", x -> x.order(0, 0, 0, -1, -1), -14);
        due(full, "INDEX ahead of OUTSIDE: n", x -> x.order(0, 0, 0, 0, 10), -13);
        due(full, "INDEX ahead of OUTSIDE: n", x -> x.order(0, 0, 0, 10, 0), -13);
        due(full, "OUTSIDE: n ahead of UNKNOWN", x -> x.order(0, 2, 0, 1, 8), OUTSIDE);
        due(full, "OUTSIDE: n ahead of STATE", x -> x.order(0, 1, 0, 0, 8), OUTSIDE);
        due(full, "OUTSIDE: n ahead of FULL", x -> x.order(0, 0, 0, 0, 8), OUTSIDE);
        due(full, "UNKNOWN: a WORK ahead of STATE", x -> x.order(0, 2, 0, 0, 9), UNKNOWN);
        due(full, "STATE: twice ahead of FULL", x -> x.order(0, 1, 0, 0, 9), STATE);
        Supplier<OpenPots> unlawful = EdgesOfTermsTest::fullAndUnlawful;
        due(unlawful, "STATE: not LAWFUL ahead of FULL", x -> x.order(1, 0, 0, 0, 9), STATE);
        due(unlawful, "STATE: not LAWFUL ahead of FULL", x -> x.order(2, 0, 0, 0, 9), STATE);
        due(unlawful, "but of a ROW: FULL", x -> x.order(0, 0, 0, 0, 9), FULL);
    }

    private static void refusalsChangeNothing() {
        CHECK.says(0, "they change nothing (but fault(), of a call that names FAULTS).");
        Twin rich = new Twin(CHECK, EdgesOfTermsTest::rich);
        rich.stays("work(1024, 0)", x -> x.work(1024, 0), OUTSIDE);
        rich.stays("work(-1, 0)", x -> x.work(-1, 0), OUTSIDE);
        rich.stays("work(0, 16)", x -> x.work(0, 16), OUTSIDE);
        rich.stays("ofWork(4, 0)", x -> x.ofWork(4, 0), UNKNOWN);
        rich.stays("ofWork(0, 2)", x -> x.ofWork(0, 2), OUTSIDE);
        rich.stays("before(0, 4, true)", x -> x.before(0, 4, true), UNKNOWN);
        rich.stays("before(4, 0, false)", x -> x.before(4, 0, false), UNKNOWN);
        rich.stays("before(2, 2, true)", x -> x.before(2, 2, true), OUTSIDE);
        rich.stays("before(3, 0, true)", x -> x.before(3, 0, true), STATE);
        rich.stays("thing(10, 0, 5)", x -> x.thing(10, 0, 5), UNKNOWN);
        rich.stays("thing(0, 0, 0)", x -> x.thing(0, 0, 0), OUTSIDE);
        rich.stays("thing(0, 0, 10)", x -> x.thing(0, 0, 10), OUTSIDE);
        rich.stays("thing(0, 1, -1)", x -> x.thing(0, 1, -1), OUTSIDE);
        rich.stays("thing(0, 1, 100)", x -> x.thing(0, 1, 100), OUTSIDE);
        rich.stays("thing(0, 2, 5)", x -> x.thing(0, 2, 5), OUTSIDE);
        rich.stays("cross(5)", x -> x.cross(5), OUTSIDE);
        rich.stays("knot(2)", x -> x.knot(2), OUTSIDE);
        rich.stays("part(4)", x -> x.part(4), UNKNOWN);
        rich.stays("two(4)", x -> x.two(4), OUTSIDE);
        rich.stays("without(4)", x -> x.without(4), UNKNOWN);
        rich.stays("why(0, 4)", x -> x.why(0, 4), UNKNOWN);
        rich.stays("why(1, 0)", x -> x.why(1, 0), STATE);
        rich.stays("lose(4)", x -> x.lose(4), UNKNOWN);
        rich.stays("many(4)", x -> x.many(4), OUTSIDE);
        Twin none = new Twin(CHECK, OpenPots::new);
        none.stays("best(0) of none", x -> x.best(0), STATE);
        none.stays("build(0, 1) of none", x -> x.build(0, 1), STATE);
        none.stays("two(0) of none", x -> x.two(0), STATE);
    }

    private static void refusedOrdersChangeNothing() {
        CHECK.says(0, "they change nothing");
        Twin rich = new Twin(CHECK, EdgesOfTermsTest::rich);
        rich.stays("ofOrder(3, 0)", x -> x.ofOrder(3, 0), UNKNOWN);
        rich.stays("ofOrder(0, 4)", x -> x.ofOrder(0, 4), OUTSIDE);
        rich.stays("best(2)", x -> x.best(2), OUTSIDE);
        rich.stays("from(3, 0, 0)", x -> x.from(3, 0, 0), UNKNOWN);
        rich.stays("from(0, 5, 0)", x -> x.from(0, 5, 0), OUTSIDE);
        rich.stays("from(0, 1, 0)", x -> x.from(0, 1, 0), STATE);
        rich.stays("better(0, 3)", x -> x.better(0, 3), UNKNOWN);
        rich.stays("build(3, 1)", x -> x.build(3, 1), OUTSIDE);
        rich.stays("build(0, 0)", x -> x.build(0, 0), OUTSIDE);
        rich.stays("move(3)", x -> x.move(3), UNKNOWN);
        rich.stays("move(0)", x -> x.move(0), STATE);
        rich.stays("moves(3)", x -> x.moves(3), UNKNOWN);
        rich.stays("moves(0)", x -> x.moves(0), STATE);
        rich.stays("cheapest(3, 9)", x -> x.cheapest(3, 9), UNKNOWN);
        rich.stays("cheapest(0, 100)", x -> x.cheapest(0, 100), OUTSIDE);
        rich.stays("room(3, 9)", x -> x.room(3, 9), UNKNOWN);
        rich.stays("room(0, 10000)", x -> x.room(0, 10000), OUTSIDE);
        rich.stays("tell(3)", x -> x.tell(3), UNKNOWN);
        rich.stays("show(3)", x -> x.show(3), UNKNOWN);
    }

    private static void refusalsOfFaultingCallsChangeNothing() {
        CHECK.says(0, "(but fault(), of a call that names FAULTS)");
        CHECK.due("fault() ahead of them", rich().fault(), 3);
        Twin rich = new Twin(CHECK, EdgesOfTermsTest::rich);
        rich.staysButFault("shop(4, 0, 0, 1)", x -> x.shop(4, 0, 0, 1), UNKNOWN, 0);
        rich.staysButFault("shop(0, 3, 0, 1)", x -> x.shop(0, 3, 0, 1), OUTSIDE, 0);
        rich.staysButFault("order(0, 4, 0, 0, 4)", x -> x.order(0, 4, 0, 0, 4), UNKNOWN, 0);
        rich.staysButFault("order(3, 0, 0, 0, 4)", x -> x.order(3, 0, 0, 0, 4), OUTSIDE, 0);
        rich.staysButFault("order(0, 0, 3, 0, 4)", x -> x.order(0, 0, 3, 0, 4), OUTSIDE, 0);
        rich.staysButFault("order(0, 0, 0, 0, 3)", x -> x.order(0, 0, 0, 0, 3), OUTSIDE, 0);
        rich.staysButFault("order(0, 0, 0, 1, 4)", x -> x.order(0, 0, 0, 1, 4), UNKNOWN, 0);
        rich.staysButFault("order(0, 1, 1, 3, 4)", x -> x.order(0, 1, 1, 3, 4), UNKNOWN, 0);
        rich.staysButFault("order(0, 1, 1, 0, 4)", x -> x.order(0, 1, 1, 0, 4), UNKNOWN, 0);
        rich.staysButFault("sheet(4, 0, 1)", x -> x.sheet(4, 0, 1), UNKNOWN, 0);
        rich.staysButFault("sheet(0, 3, 1)", x -> x.sheet(0, 3, 1), OUTSIDE, 0);
        rich.staysButFault("sheet(0, 0, 61)", x -> x.sheet(0, 0, 61), OUTSIDE, 0);
        rich.staysButFault("put(4, 0, 1)", x -> x.put(4, 0, 1), UNKNOWN, 0);
        rich.staysButFault("cell(4, 0, 0)", x -> x.cell(4, 0, 0), LOST, 0);
        rich.staysButFault("cell(0, 0, 3)", x -> x.cell(0, 0, 3), LOST, 0);
        rich.staysButFault("as(3, 0)", x -> x.as(3, 0), UNKNOWN, 0);
        rich.staysButFault("as(0, 3)", x -> x.as(0, 3), OUTSIDE, 0);
        rich.staysButFault("a wrong text", x -> x.shop(0, 0, 0, 5), -100, 0);
        rich.staysButFault("no text at all", x -> x.shop(0, 0, 5, 0), -100, 0);
        // All that a text tells ahead of its FIRST FAULT is not taken either.
        String[] wrong = {"wj;wi<0;w;sa9;sb8;sa", "wj;wi<0;w;sa9;sb8;", "w;w;w;w;w;w;w;w;w;w", "wab;wbc<0;wcdk"};
        for (String text : wrong) {
            Twin told = new Twin(CHECK, () -> richWith(text));
            int place = text.length() - (text.endsWith(";") ? 0 : 1);
            told.staysButFault("shop '" + text + "'", x -> x.shop(3, 0, 0, text.length()), -100 - place, 0);
        }
    }

    private static OpenPots richWith(String text) {
        OpenPots x = rich();
        x.sheet(3, 0, text.length());
        for (int i = 0; i < text.length(); i++) {
            x.put(3, i, text.charAt(i));
        }
        return x;
    }

    private static void fullOnesChangeNothing() {
        CHECK.says(0, "FULL; they change nothing");
        Twin full = new Twin(CHECK, EdgesOfTermsTest::full);
        full.stays("a tenth work", x -> x.work(1, 1), FULL);
        full.stays("a ninth order built", x -> x.build(0, 1), FULL);
        full.stays("a ninth order by moves", x -> x.move(0), FULL);
        full.staysButFault("a ninth order", x -> x.order(0, 0, 0, 0, 9), FULL, 0);
        full.staysButFault("one work twice", x -> x.order(0, 1, 0, 0, 9), STATE, 0);
        full.staysButFault("no such work", x -> x.order(0, 2, 0, 0, 9), UNKNOWN, 0);
        Twin unlawful = new Twin(CHECK, EdgesOfTermsTest::fullAndUnlawful);
        unlawful.staysButFault("not LAWFUL", x -> x.order(1, 0, 0, 0, 9), STATE, 0);
        unlawful.stays("moves of one not LAWFUL", x -> x.move(7), STATE);
    }

    private static void numbersOfFaults() {
        CHECK.says(0, "FAULTS are the machine's: 1 NULL (there is nothing), 2 CAST (it is of another LANE, kind), 3 INDEX"
                + " (of cells from i on also where i is not 0 .. how many there are, if none of them is taken, too),"
                + " 4 SIZE (a length below 0).");
        OpenPots x = rich();
        CHECK.due("NULL", x.put(3, 0, 0), -11);
        CHECK.due("NULL", x.fault(), 1);
        CHECK.due("CAST of a LANE", x.shop(0, 2, 0, 1), -12);
        CHECK.due("CAST of a LANE", x.fault(), 2);
        CHECK.due("CAST of a kind", x.as(1, 2), -12);
        CHECK.due("CAST of a kind", x.fault(), 2);
        CHECK.due("INDEX", x.put(0, 5, 0), -13);
        CHECK.due("INDEX", x.fault(), 3);
        CHECK.due("SIZE", x.sheet(3, 0, -1), -14);
        CHECK.due("SIZE", x.fault(), 4);
        // Five cells: none of them may be taken from 0 to 5.
        int[] from = {-1, 0, 5, 6, Integer.MIN_VALUE, Integer.MAX_VALUE};
        for (int i : from) {
            boolean there = i >= 0 && i <= 5;
            CHECK.due("no cells of shop from " + i, x.shop(0, 0, i, 0), there ? -100 : -13);
            CHECK.due("its fault()", x.fault(), there ? 0 : 3);
            CHECK.due("no cells of order from " + i, x.order(0, 0, 0, i, 0), there ? OUTSIDE : -13);
            CHECK.due("its fault()", x.fault(), there ? 0 : 3);
        }
        x.sheet(3, 1, 0);
        CHECK.due("no cells of a row of none", x.shop(3, 1, 0, 0), -100);
        CHECK.due("no cells behind a row of none", x.shop(3, 1, 1, 0), -13);
        CHECK.due("a cell of a row of none", x.shop(3, 1, 0, 1), -13);
    }

    private static void firstFaultOfSeveral() {
        CHECK.says(0, "Of a call the first that is come to, in the order told;");
        OpenPots x = rich();
        CHECK.due("shop: nothing is no CAST, NULL ahead of SIZE", x.shop(3, 2, -1, -1), -11);
        CHECK.due("shop: NULL ahead of INDEX", x.shop(3, 2, 9, 9), -11);
        CHECK.due("shop: CAST ahead of SIZE", x.shop(0, 2, -1, -1), -12);
        CHECK.due("shop: CAST ahead of INDEX", x.shop(0, 2, 9, 9), -12);
        CHECK.due("shop: SIZE ahead of INDEX", x.shop(0, 0, -1, -1), -14);
        CHECK.due("shop: SIZE ahead of INDEX", x.shop(0, 0, 9, Integer.MIN_VALUE), -14);
        CHECK.due("shop: INDEX ahead of a wrong text", x.shop(0, 0, 0, 6), -13);
        CHECK.due("put: NULL ahead of INDEX", x.put(3, -1, 0), -11);
        x.cell(3, -1, 1);
        CHECK.due("cell: NULL ahead of INDEX", x.fault(), 1);
        x.cell(1, -1, 0);
        CHECK.due("cell: CAST ahead of INDEX", x.fault(), 2);
    }

    private static void faultsChangeNothing() {
        CHECK.says(0, "it answers -10 less it (LOST, where a long is answered, as for refusals) and changes nothing;"
                + " fault() tells it.");
        Twin rich = new Twin(CHECK, EdgesOfTermsTest::rich);
        rich.staysButFault("shop of nothing", x -> x.shop(3, 0, 0, 1), -11, 1);
        rich.staysButFault("shop of another lane", x -> x.shop(0, 1, 0, 1), -12, 2);
        rich.staysButFault("shop beyond", x -> x.shop(0, 0, 1, 5), -13, 3);
        rich.staysButFault("shop of a length below 0", x -> x.shop(0, 0, 0, -1), -14, 4);
        rich.staysButFault("order of nothing", x -> x.order(0, 3, 0, 0, 4), -11, 1);
        rich.staysButFault("order of another lane", x -> x.order(0, 0, 1, 0, 4), -12, 2);
        rich.staysButFault("order beyond", x -> x.order(0, 0, 0, 2, 4), -13, 3);
        rich.staysButFault("order of a length below 0", x -> x.order(0, 0, 0, 0, -4), -14, 4);
        rich.staysButFault("sheet of a length below 0", x -> x.sheet(0, 1, -1), -14, 4);
        rich.staysButFault("put to nothing", x -> x.put(3, 0, 1), -11, 1);
        rich.staysButFault("put ahead of a row", x -> x.put(0, -1, 1), -13, 3);
        rich.staysButFault("put behind a row", x -> x.put(0, 5, 1), -13, 3);
        rich.staysButFault("cell of nothing", x -> x.cell(3, 0, 0), LOST, 1);
        rich.staysButFault("cell of another lane", x -> x.cell(0, 0, 1), LOST, 2);
        rich.staysButFault("cell ahead of a row", x -> x.cell(0, -1, 0), LOST, 3);
        rich.staysButFault("cell behind a row", x -> x.cell(0, 5, 0), LOST, 3);
        rich.staysButFault("as of another kind", x -> x.as(0, 1), -12, 2);
    }

    private static void numbersAndBits() {
        CHECK.says(0, "NONE is -9.");
        CHECK.due("NONE", OpenPots.NONE, -9);
        CHECK.due("of no works", new OpenPots().widest(), -9);
        CHECK.says(0, "Sets are told as bits (bit k for number k).");
        for (int t = 0; t < 10; t++) {
            OpenPots x = new OpenPots();
            Check.shop(x, "w" + (char) ('a' + t));
            CHECK.due("needs of thing " + t, x.ofWork(0, 0), 1 << t);
            CHECK.due("knot of thing " + t, x.knot(0), 1 << t);
            Check.order(x, 0, 0);
            CHECK.due("open is thing " + t, x.ofOrder(0, 20), 1 << t);
        }
        OpenPots x = Check.shopOf("w;w;w;w;w;w;w;w;w");
        for (int w = 1; w < 9; w++) {
            x.before(w - 1, w, true);
            CHECK.due("befores of work " + w, x.ofWork(w, 1), 1 << (w - 1));
        }
    }

    private static void fiveHundredAndTwelve() {
        CHECK.says(0, "An object is used for at most 512 calls after it has been made; what later calls answer is free.");
        OpenPots x = new OpenPots();
        x.work(1, 0);
        x.build(0, 1);
        int want = 0;
        for (int call = 3; call < 512; call++) {
            CHECK.due("call " + call, x.show(0), 0);
            want = want * 31 + 4;
        }
        CHECK.due("call 512", x.trace(), want);
    }
}
