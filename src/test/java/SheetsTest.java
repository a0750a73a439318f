/** Promises 26 to 35: sheet, lose, put, cell, tell, show, as, trace, fault, many. */
public final class SheetsTest {
    private static final Check CHECK = new Check();

    public static void main(String[] args) {
        constants();
        sheets();
        cells();
        faults();
        telling();
        wrapping();
        counting();
        CHECK.end();
    }

    private static void constants() {
        CHECK.due("UNKNOWN", OpenPots.UNKNOWN, -1);
        CHECK.due("OUTSIDE", OpenPots.OUTSIDE, -2);
        CHECK.due("STATE", OpenPots.STATE, -3);
        CHECK.due("FULL", OpenPots.FULL, -4);
        CHECK.due("NONE", OpenPots.NONE, -9);
        CHECK.due("LOST", OpenPots.LOST, Long.MIN_VALUE);
    }

    private static void sheets() {
        OpenPots x = new OpenPots();
        CHECK.due("no sheet", x.sheet(-1, 9, -1), OpenPots.UNKNOWN);
        CHECK.due("no sheet", x.sheet(4, 0, 1), OpenPots.UNKNOWN);
        CHECK.due("no lane", x.sheet(0, -1, -1), OpenPots.OUTSIDE);
        CHECK.due("no lane", x.sheet(0, 3, 1), OpenPots.OUTSIDE);
        CHECK.due("too long", x.sheet(0, 0, 61), OpenPots.OUTSIDE);
        CHECK.due("below 0", x.sheet(0, 0, Integer.MIN_VALUE), -14);
        CHECK.due("it has nothing still", x.lose(0), 0);
        CHECK.due("an empty one", x.sheet(0, 0, 0), 1);
        CHECK.due("has no cell", x.put(0, 0, 1), -13);
        CHECK.due("but is something", x.lose(0), 1);
        CHECK.due("no more", x.lose(0), 0);
        CHECK.due("lose(-1)", x.lose(-1), OpenPots.UNKNOWN);
        CHECK.due("lose(4)", x.lose(4), OpenPots.UNKNOWN);
        x.sheet(3, 2, 60);
        x.put(3, 59, 7);
        CHECK.due("its last", x.cell(3, 59, 2), 7);
        CHECK.due("refused", x.sheet(3, 2, -1), -14);
        CHECK.due("it stays", x.cell(3, 59, 2), 7);
        CHECK.due("anew", x.sheet(3, 2, 60), 1);
        CHECK.due("all are 0", x.cell(3, 59, 2), 0);
        x.put(3, 0, 8);
        x.put(3, 5, 8);
        x.sheet(3, 2, 2);
        CHECK.due("the first is 0", x.cell(3, 0, 2), 0);
        CHECK.due("shorter", x.cell(3, 5, 2), OpenPots.LOST);
        x.sheet(3, 2, 60);
        CHECK.due("longer", x.cell(3, 5, 2), 0);
    }

    private static void cells() {
        OpenPots x = new OpenPots();
        int[] puts = {0, 127, 128, 255, 256, -129, 32767, 32768, 65535, -32769, Integer.MAX_VALUE, Integer.MIN_VALUE};
        for (int lane = 0; lane < 3; lane++) {
            x.sheet(lane, lane, puts.length);
            for (int i = 0; i < puts.length; i++) {
                CHECK.due("put", x.put(lane, i, puts[i]), 1);
            }
        }
        for (int i = 0; i < puts.length; i++) {
            CHECK.due("byte", x.cell(0, i, 0), (byte) puts[i]);
            CHECK.due("short", x.cell(1, i, 1), (short) puts[i]);
            CHECK.due("int", x.cell(2, i, 2), puts[i]);
        }
        CHECK.due("put(4)", x.put(4, 0, 1), OpenPots.UNKNOWN);
        CHECK.due("put(-1)", x.put(-1, -1, 1), OpenPots.UNKNOWN);
        CHECK.due("put of nothing", x.put(3, -1, 1), -11);
        CHECK.due("put at -1", x.put(0, -1, 1), -13);
        CHECK.due("put at the end", x.put(0, puts.length, 1), -13);
    }

    private static void lost(OpenPots x, int k, int i, int lane, int fault) {
        CHECK.due("cell(" + k + ", " + i + ", " + lane + ")", x.cell(k, i, lane), OpenPots.LOST);
        CHECK.due("its fault()", x.fault(), fault);
    }

    private static void faults() {
        OpenPots x = new OpenPots();
        x.sheet(0, 0, 2);
        CHECK.due("fault() of none", x.fault(), 0);
        lost(x, 0, 2, 0, 3);
        lost(x, 0, -1, 0, 3);
        lost(x, 0, 9, 1, 2);
        lost(x, 1, 9, 1, 1);
        lost(x, 1, 0, 3, 0);
        lost(x, 4, 0, 0, 0);
        x.put(1, 0, 0);
        CHECK.due("fault() of put", x.fault(), 1);
        x.lose(0);
        x.many(0);
        x.tell(0);
        x.work(1, 0);
        x.before(0, 0, true);
        CHECK.due("fault() behind calls that name none", x.fault(), 1);
        x.put(7, 0, 0);
        CHECK.due("fault() of one refused", x.fault(), 0);
        x.sheet(0, 0, -1);
        CHECK.due("fault() of sheet", x.fault(), 4);
        x.sheet(0, 0, 1);
        CHECK.due("fault() of a sheet made", x.fault(), 0);
        Check.order(x, 0, 0);
        CHECK.due("as(0, 1)", x.as(0, 1), -12);
        CHECK.due("fault() of as", x.fault(), 2);
        x.as(0, 3);
        CHECK.due("fault() of as, refused", x.fault(), 0);
        x.as(0, 1);
        x.put(0, 0, 'w');
        CHECK.due("fault() of put, done", x.fault(), 0);
        x.as(0, 1);
        x.shop(0, 0, 0, 1);
        CHECK.due("fault() of shop, done", x.fault(), 0);
        Check.order(x, 0, 0);
        x.as(0, 1);
        CHECK.due("order of too many", x.order(0, 0, 0, 0, 0), OpenPots.OUTSIDE);
        CHECK.due("fault() of order, refused", x.fault(), 0);
        x.as(0, 1);
        CHECK.due("cell", x.cell(0, 0, 0), 'w');
        CHECK.due("fault() of cell, done", x.fault(), 0);
        x.as(0, 1);
        CHECK.due("as(0, 0)", x.as(0, 0), 1);
        CHECK.due("fault() of as, done", x.fault(), 0);
    }

    private static void telling() {
        OpenPots x = new OpenPots();
        Check.shop(x, "wab;wbc");
        for (int kind = 0; kind < 3; kind++) {
            Check.order(x, kind, 0, 1);
        }
        CHECK.due("tell(3)", x.tell(3), OpenPots.UNKNOWN);
        CHECK.due("show(-1)", x.show(-1), OpenPots.UNKNOWN);
        CHECK.due("trace()", x.trace(), 0);
        CHECK.due("a ROW told", x.tell(0), 2);
        CHECK.due("trace()", x.trace(), 1);
        CHECK.due("a BEFORE told", x.tell(1), 1002);
        CHECK.due("trace()", x.trace(), (31 + 2) * 31 + 1);
        CHECK.due("a BEFORE shown", x.show(1), 1);
        CHECK.due("trace()", x.trace(), 1024 * 31 + 4);
        CHECK.due("an AGAIN told", x.tell(2), 1004);
        int[] bodies = {1, 2, 1, 4, 3, 2, 1, 1};
        int want = 0;
        for (int body : bodies) {
            want = want * 31 + body;
        }
        CHECK.due("trace()", x.trace(), want);
        CHECK.due("an AGAIN shown", x.show(2), 80);
        CHECK.due("trace()", x.trace(), want * 31 + 5);
        CHECK.due("a ROW shown", x.show(0), 0);
        CHECK.due("trace()", x.trace(), (want * 31 + 5) * 31 + 4);
        x.thing(1, 0, 9);
        CHECK.due("told by new sizes", x.tell(2), 1020);
        for (int o = 0; o < 3; o++) {
            for (int kind = 0; kind < 3; kind++) {
                CHECK.due("as(" + o + ", " + kind + ")", x.as(o, kind), kind <= o ? 1 : -12);
            }
            CHECK.due("as(" + o + ", -1)", x.as(o, -1), OpenPots.OUTSIDE);
            CHECK.due("as(" + o + ", 3)", x.as(o, 3), OpenPots.OUTSIDE);
        }
        Check.shop(x, "w");
        Check.order(x, 2, 0);
        CHECK.due("MOST of nothing", x.tell(0), 1000);
        CHECK.due("as(3, 3)", x.as(3, 3), OpenPots.UNKNOWN);
        CHECK.due("as(-1, 0)", x.as(-1, 0), OpenPots.UNKNOWN);
    }

    private static void wrapping() {
        OpenPots x = new OpenPots();
        x.work(0, 0);
        Check.order(x, 2, 0);
        int want = 0;
        for (int k = 0; k < 40; k++) {
            CHECK.due("show", x.show(0), 80);
            want = want * 31 + 5;
            CHECK.due("trace()", x.trace(), want);
        }
    }

    private static void counting() {
        OpenPots x = new OpenPots();
        Check.shop(x, "wabj;w<0;wbc<0<1;sd4");
        Check.order(x, 0, 2, 1, 0);
        CHECK.due("many(0)", x.many(0), 3);
        CHECK.due("many(1)", x.many(1), 1);
        CHECK.due("many(2)", x.many(2), 3);
        CHECK.due("many(3)", x.many(3), 4);
        CHECK.due("many(4)", x.many(4), OpenPots.OUTSIDE);
        CHECK.due("many(-1)", x.many(-1), OpenPots.OUTSIDE);
        x.before(1, 2, false);
        CHECK.due("many(2)", x.many(2), 2);
    }
}
