/** Promises 1 to 6: a new object, shop, work, ofWork, before, thing. */
public final class ShopTest {
    private static final Check CHECK = new Check();
    private static final String TEN_SIZES = ";sa1;sb2;sc3;sd4;se5;sf6;sg7;sh8;si9;sj1";

    public static void main(String[] args) {
        newObject();
        texts();
        refusedShops();
        cellsOfShops();
        whatATextChanges();
        works();
        befores();
        things();
        CHECK.end();
    }

    private static void newObject() {
        OpenPots x = new OpenPots();
        for (int what = 0; what < 4; what++) {
            CHECK.due("new: many(" + what + ")", x.many(what), 0);
        }
        for (int k = 0; k < 4; k++) {
            CHECK.due("new: lose(" + k + ")", x.lose(k), 0);
        }
        CHECK.due("new: trace()", x.trace(), 0);
        CHECK.due("new: fault()", x.fault(), 0);
        for (int t = 0; t < 10; t++) {
            CHECK.due("new: SIZE of " + t, x.thing(t, 0, 1), 1);
            CHECK.due("new: PRICE of " + t, x.thing(t, 1, 1), 1);
        }
    }

    private static void text(String text, int want) {
        CHECK.due("shop '" + text + "'", Check.shop(new OpenPots(), text), want);
        CHECK.due("first fault of '" + text + "', plainly", -100 - Plain.firstFault(text), want < 0 ? want : -99);
    }

    private static void texts() {
        text("", -100);
        text("w", 1);
        text("w;", -102);
        text(";w", -100);
        text("sa1", -100);
        text("x", -100);
        text("wabcdefghij", 1);
        text("wjihgfedcba", 1);
        text("waba", -103);
        text("wk", -101);
        text("w1", -101);
        text("ww", -101);
        text("w<", -102);
        text("w<0", -102);
        text("wa<", -103);
        text("wa<;", -103);
        text("wa<b", -103);
        text("w;w<0", 2);
        text("w;w<1", -104);
        text("w;w<<", -104);
        text("w;w<0<", -106);
        text("w;w<0<0", -106);
        text("w;w<0<1", -106);
        text("w;w;w<1<0", 3);
        text("w;w<0a", -105);
        text("w;w<01", -105);
        text("w;wab<0;wc", 3);
        text("w;s", -103);
        text("w;sk", -103);
        text("w;s;", -103);
        text("w;sa", -104);
        text("w;sa0", -104);
        text("w;sa<", -104);
        text("w;sa9", 1);
        text("w;sa9<", -105);
        text("w;sa99", -105);
        text("w;sa1;", -106);
        text("w;sa1;sa2", -107);
        text("w;sb1;sa2", 1);
        text("w;sa1;w", -106);
        text("w;w;w;w;w;w;w;w;w", 9);
        text("w;w;w;w;w;w;w;w;w<0<1<2<3<4<5<6<7", 9);
        text("w;w;w;w;w;w;w;w;w<0<1<2<3<4<5<6<7<", -134);
        text("w;w;w;w;w;w;w;w;w<8", -118);
        text("w;w;w;w;w;w;w;w;w;", -118);
        text("w;w;w;w;w;w;w;w;w;w", -118);
        text("w;w;w;w;w;w;w;w;w;sa1;sb1;sc1", 9);
        text("w;w;w;w;w;w;w;w;w;sa1;sb1;sc1;", -129);
        text("w" + TEN_SIZES, 1);
        text("w" + TEN_SIZES + ";", -142);
        text("w" + TEN_SIZES + ";s", -142);
        text("w" + TEN_SIZES + ";sa", -142);
        text("w" + TEN_SIZES + ";w", -142);
        text("w;w" + TEN_SIZES, 2);
        text("w;w" + TEN_SIZES + ";", -143);
    }

    private static void refusedShops() {
        OpenPots x = new OpenPots();
        x.sheet(1, 1, 3);
        CHECK.due("shop of no sheet", x.shop(-1, 9, 0, 1), OpenPots.UNKNOWN);
        CHECK.due("shop of no sheet", x.shop(4, 0, 0, 1), OpenPots.UNKNOWN);
        CHECK.due("shop by no lane", x.shop(0, -1, 0, 1), OpenPots.OUTSIDE);
        CHECK.due("shop by no lane", x.shop(1, 3, 0, -1), OpenPots.OUTSIDE);
        CHECK.due("shop of nothing", x.shop(0, 2, 0, -1), -11);
        CHECK.due("fault()", x.fault(), 1);
        CHECK.due("shop of another lane", x.shop(1, 0, 7, -1), -12);
        CHECK.due("fault()", x.fault(), 2);
        CHECK.due("shop of a length below 0", x.shop(1, 1, 9, -1), -14);
        CHECK.due("fault()", x.fault(), 4);
        CHECK.due("shop beyond the row", x.shop(1, 1, 1, 3), -13);
        CHECK.due("fault()", x.fault(), 3);
        CHECK.due("shop refused", x.shop(4, 0, 0, 0), OpenPots.UNKNOWN);
        CHECK.due("fault() of a refused one", x.fault(), 0);
        CHECK.due("shop from -1", x.shop(1, 1, -1, 1), -13);
        CHECK.due("none from -1", x.shop(1, 1, -1, 0), -13);
        CHECK.due("none from the end", x.shop(1, 1, 3, 0), -100);
        CHECK.due("fault() of a wrong text", x.fault(), 0);
        CHECK.due("none from behind the end", x.shop(1, 1, 4, 0), -13);
        CHECK.due("far more", x.shop(1, 1, 1, Integer.MAX_VALUE), -13);
        CHECK.due("far off", x.shop(1, 1, Integer.MAX_VALUE, Integer.MAX_VALUE), -13);
    }

    private static void cellsOfShops() {
        OpenPots x = new OpenPots();
        x.sheet(0, 2, 5);
        x.put(0, 1, 'w');
        x.put(0, 2, 'b');
        x.put(0, 3, 'w' + 65536);
        CHECK.due("a text amid a row", x.shop(0, 2, 1, 2), 1);
        CHECK.due("its needs", x.ofWork(0, 0), 2);
        CHECK.due("a code that is not cut", x.shop(0, 2, 3, 1), -100);
        x.sheet(0, 1, 1);
        x.put(0, 0, 'w' + 65536);
        CHECK.due("a code that is cut", x.shop(0, 1, 0, 1), 1);
    }

    private static void whatATextChanges() {
        OpenPots x = new OpenPots();
        Check.shop(x, "wab;wbc<0;sa2;sb3");
        x.thing(2, 0, 4);
        x.thing(2, 1, 40);
        Check.order(x, 0, 0, 1);
        x.tell(0);
        CHECK.due("a wrong text", Check.shop(x, "wa;sc9;sa9;"), -111);
        CHECK.due("works stay", x.many(0), 2);
        CHECK.due("orders stay", x.many(1), 1);
        CHECK.due("sizes stay", x.ofOrder(0, 1), 7);
        CHECK.due("a text", Check.shop(x, "wac;w;wb<1<0;sc7"), 3);
        CHECK.due("orders are gone", x.many(1), 0);
        CHECK.due("needs", x.ofWork(0, 0), 5);
        CHECK.due("needs none", x.ofWork(1, 0), 0);
        CHECK.due("befores", x.ofWork(2, 1), 3);
        CHECK.due("befores anew", x.ofWork(1, 1), 0);
        CHECK.due("size not told", x.thing(0, 0, 1), 1);
        CHECK.due("size told", x.thing(2, 0, 1), 7);
        CHECK.due("prices stay", x.thing(2, 1, 1), 40);
        CHECK.due("trace stays", x.trace(), 1);
    }

    private static void works() {
        OpenPots x = new OpenPots();
        CHECK.due("work(-1, 0)", x.work(-1, 0), OpenPots.OUTSIDE);
        CHECK.due("work(1024, 0)", x.work(1024, 0), OpenPots.OUTSIDE);
        CHECK.due("work(0, 1)", x.work(0, 1), OpenPots.OUTSIDE);
        CHECK.due("work(0, -1)", x.work(0, -1), OpenPots.OUTSIDE);
        CHECK.due("many(0)", x.many(0), 0);
        CHECK.due("work(1023, 0)", x.work(1023, 0), 0);
        Check.order(x, 0, 0);
        CHECK.due("work refused", x.work(0, 2), OpenPots.OUTSIDE);
        CHECK.due("orders stay", x.many(1), 1);
        CHECK.due("work(0, 1)", x.work(0, 1), 1);
        CHECK.due("orders are gone", x.many(1), 0);
        CHECK.due("ofWork(1, 1)", x.ofWork(1, 1), 1);
        CHECK.due("ofWork(0, 0)", x.ofWork(0, 0), 1023);
        CHECK.due("ofWork(1, 2)", x.ofWork(1, 2), OpenPots.OUTSIDE);
        CHECK.due("ofWork(1, -1)", x.ofWork(1, -1), OpenPots.OUTSIDE);
        CHECK.due("ofWork(2, 5)", x.ofWork(2, 5), OpenPots.UNKNOWN);
        CHECK.due("ofWork(-1, 0)", x.ofWork(-1, 0), OpenPots.UNKNOWN);
        for (int w = 2; w < 9; w++) {
            CHECK.due("work", x.work(w, (1 << w) - 1), w);
        }
        CHECK.due("a tenth work", x.work(0, 511), OpenPots.FULL);
        CHECK.due("a tenth work, wrong", x.work(0, 512), OpenPots.OUTSIDE);
        CHECK.due("many(2)", x.many(2), 36);
    }

    private static void befores() {
        OpenPots x = new OpenPots();
        Check.shop(x, "wa;wb;wc;wd");
        CHECK.due("before(0, 4)", x.before(0, 4, true), OpenPots.UNKNOWN);
        CHECK.due("before(-1, -1)", x.before(-1, -1, true), OpenPots.UNKNOWN);
        CHECK.due("before(2, 2)", x.before(2, 2, false), OpenPots.OUTSIDE);
        CHECK.due("not before, as it was", x.before(2, 1, false), 0);
        Check.order(x, 2, 3, 2, 1, 0);
        CHECK.due("2 before 1", x.before(2, 1, true), 1);
        CHECK.due("2 before 1 again", x.before(2, 1, true), 0);
        CHECK.due("ofWork(1, 1)", x.ofWork(1, 1), 4);
        CHECK.due("ofWork(2, 1)", x.ofWork(2, 1), 0);
        CHECK.due("1 before 3", x.before(1, 3, true), 1);
        CHECK.due("3 before 0", x.before(3, 0, true), 1);
        CHECK.due("0 before 2", x.before(0, 2, true), OpenPots.STATE);
        CHECK.due("ofWork(2, 1)", x.ofWork(2, 1), 0);
        CHECK.due("2 before 0", x.before(2, 0, true), 1);
        CHECK.due("many(2)", x.many(2), 4);
        CHECK.due("orders stay", x.many(1), 1);
        CHECK.due("of their kind", x.ofOrder(0, 0), 2);
        CHECK.due("lawful no more", x.ofOrder(0, 3), 0);
        CHECK.due("1 need not before 3", x.before(1, 3, false), 1);
        CHECK.due("lawful no more", x.ofOrder(0, 3), 1);
        CHECK.due("0 before 2 still", x.before(0, 2, true), OpenPots.STATE);
        CHECK.due("2 need not before 0", x.before(2, 0, false), 1);
        CHECK.due("0 before 2 now", x.before(0, 2, true), 1);
    }

    private static void things() {
        OpenPots x = new OpenPots();
        CHECK.due("thing(-1, 9, 99)", x.thing(-1, 9, 99), OpenPots.UNKNOWN);
        CHECK.due("thing(10, 0, 1)", x.thing(10, 0, 1), OpenPots.UNKNOWN);
        CHECK.due("thing(0, 2, 1)", x.thing(0, 2, 1), OpenPots.OUTSIDE);
        CHECK.due("thing(0, -1, 1)", x.thing(0, -1, 1), OpenPots.OUTSIDE);
        CHECK.due("thing(0, 0, 0)", x.thing(0, 0, 0), OpenPots.OUTSIDE);
        CHECK.due("thing(0, 0, 10)", x.thing(0, 0, 10), OpenPots.OUTSIDE);
        CHECK.due("thing(0, 1, -1)", x.thing(0, 1, -1), OpenPots.OUTSIDE);
        CHECK.due("thing(0, 1, 100)", x.thing(0, 1, 100), OpenPots.OUTSIDE);
        for (int t = 0; t < 10; t++) {
            CHECK.due("size " + t, x.thing(t, 0, 9 - t / 2), 1);
            CHECK.due("price " + t, x.thing(t, 1, 99 - t), 1);
        }
        for (int t = 0; t < 10; t++) {
            CHECK.due("size " + t, x.thing(t, 0, 1), 9 - t / 2);
            CHECK.due("price " + t, x.thing(t, 1, 0), 99 - t);
            CHECK.due("price " + t, x.thing(t, 1, 1), 0);
        }
    }
}
