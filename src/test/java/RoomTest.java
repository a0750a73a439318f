/** Promises 20 to 25: cheapest, room, two, without, why, widest. */
public final class RoomTest {
    private static final Check CHECK = new Check();

    public static void main(String[] args) {
        refusing();
        prices();
        sizesAgainstPrices();
        everyThing();
        tables();
        without();
        CHECK.end();
    }

    private static void refusing() {
        OpenPots x = new OpenPots();
        CHECK.due("cheapest of none", x.cheapest(0, 100), OpenPots.UNKNOWN);
        CHECK.due("room of none", x.room(0, -1), OpenPots.UNKNOWN);
        CHECK.due("two of none", x.two(9), OpenPots.STATE);
        CHECK.due("without of none", x.without(0), OpenPots.UNKNOWN);
        CHECK.due("why of none", x.why(0, 0), OpenPots.UNKNOWN);
        CHECK.due("widest of none", x.widest(), OpenPots.NONE);
        Check.shop(x, "w");
        Check.order(x, 0, 0);
        CHECK.due("cheapest(0, -1)", x.cheapest(0, -1), OpenPots.OUTSIDE);
        CHECK.due("cheapest(0, 100)", x.cheapest(0, 100), OpenPots.OUTSIDE);
        CHECK.due("cheapest(0, 0)", x.cheapest(0, 0), 0);
        CHECK.due("room(0, -1)", x.room(0, -1), OpenPots.OUTSIDE);
        CHECK.due("room(0, 10000)", x.room(0, 10000), OpenPots.OUTSIDE);
        CHECK.due("room(0, 0)", x.room(0, 0), 0);
        CHECK.due("two(-1)", x.two(-1), OpenPots.OUTSIDE);
        CHECK.due("two(4)", x.two(4), OpenPots.OUTSIDE);
        CHECK.due("without(0)", x.without(0), 0);
        CHECK.due("widest()", x.widest(), 0);
    }

    private static void prices() {
        OpenPots x = new OpenPots();
        Check.shop(x, "wa;wb;wa;wc;wa");
        Check.order(x, 0, 0, 1, 2, 3, 4);
        x.thing(0, 1, 30);
        CHECK.due("no room", x.cheapest(0, 0), OpenPots.NONE);
        CHECK.due("opened twice again", x.cheapest(0, 1), 60);
        CHECK.due("kept", x.cheapest(0, 2), 0);
        CHECK.due("room(0, 59)", x.room(0, 59), 2);
        CHECK.due("room(0, 60)", x.room(0, 60), 1);
        x.thing(1, 0, 3);
        // b fills a room of 3, c does not.
        CHECK.due("once again", x.cheapest(0, 3), 30);
        CHECK.due("kept", x.cheapest(0, 4), 0);
        CHECK.due("room(0, 29)", x.room(0, 29), 4);
        CHECK.due("room(0, 30)", x.room(0, 30), 3);
        x.thing(0, 1, 0);
        CHECK.due("for nothing", x.cheapest(0, 3), 0);
        CHECK.due("room(0, 0)", x.room(0, 0), 3);
        x.before(4, 0, true);
        CHECK.due("of an unlawful one", x.cheapest(0, 3), 0);
    }

    private static void sizesAgainstPrices() {
        OpenPots x = new OpenPots();
        Check.shop(x, "wabc;wd;wabc;sa3;sb2;sc2");
        Check.order(x, 0, 0, 1, 2);
        x.thing(0, 1, 50);
        x.thing(1, 1, 30);
        x.thing(2, 1, 30);
        CHECK.due("too narrow", x.cheapest(0, 6), OpenPots.NONE);
        // Beside d there is room for 6: all but one of b and c, or both without a.
        CHECK.due("cheapest(0, 7)", x.cheapest(0, 7), 30);
        CHECK.due("cheapest(0, 8)", x.cheapest(0, 8), 0);
        x.thing(3, 0, 3);
        CHECK.due("room for 4: b and c", x.cheapest(0, 7), 50);
        x.thing(3, 0, 4);
        CHECK.due("room for 3: a", x.cheapest(0, 7), 60);
        x.thing(3, 0, 5);
        CHECK.due("room for 2: b", x.cheapest(0, 7), 80);
        CHECK.due("room(0, 79)", x.room(0, 79), 8);
        CHECK.due("room(0, 50)", x.room(0, 50), 9);
        CHECK.due("room(0, 49)", x.room(0, 49), 10);
        CHECK.due("room(0, 0)", x.room(0, 0), 12);
    }

    /** All ten things, as dear and as great as can be, between nothing but works that need none. */
    private static void everyThing() {
        OpenPots x = new OpenPots();
        Check.shop(x, "wabcdefghij;w;w;w;w;w;w;w;wabcdefghij");
        Check.order(x, 0, 0, 1, 2, 3, 4, 5, 6, 7, 8);
        for (int t = 0; t < 10; t++) {
            x.thing(t, 0, 9);
            x.thing(t, 1, 99);
        }
        CHECK.due("89", x.cheapest(0, 89), OpenPots.NONE);
        CHECK.due("90", x.cheapest(0, 90), 0);
        CHECK.due("room(0, 9999)", x.room(0, 9999), 90);
        Check.order(x, 0, 0, 8, 1, 2, 3, 4, 5, 6, 7);
        CHECK.due("99", x.cheapest(1, 99), 0);
        Check.shop(x, "wabcde");
        for (int w = 1; w < 9; w++) {
            x.work(w % 2 == 0 ? 31 : 31 << 5, 0);
        }
        Check.order(x, 0, 0, 1, 2, 3, 4, 5, 6, 7, 8);
        CHECK.due("all again and again", x.cheapest(0, 5), 35 * 99);
        CHECK.due("room for one", x.cheapest(0, 6), 28 * 99);
        CHECK.due("room for all", x.cheapest(0, 10), 0);
        CHECK.due("room(0, 2771)", x.room(0, 28 * 99 - 1), 7);
        CHECK.due("room(0, 2772)", x.room(0, 28 * 99), 6);
    }

    private static void tables() {
        OpenPots x = new OpenPots();
        Check.shop(x, "wabc;wde");
        CHECK.due("a table each", x.two(0), 3);
        CHECK.due("least set", x.two(1), 1);
        CHECK.due("first", x.two(2), 3);
        CHECK.due("second", x.two(3), 2);
        CHECK.due("room of the first", Check.order(x, 0, 1, 0), 0);
        CHECK.due("no less than the first NEEDS", x.room(0, 9999), 3);
        Check.shop(x, "wab");
        CHECK.due("one work", x.two(0), 2);
        CHECK.due("at the first", x.two(1), 1);
        CHECK.due("first", x.two(2), 2);
        CHECK.due("second has none", x.two(3), 0);
        // With 2 at the first table 1 need not be ahead of 3 and 4 at the second one.
        Check.shop(x, "wc;wc<0;wc<1;wad<2;wcd<3");
        CHECK.due("befores of those at it", x.two(0), 2);
        CHECK.due("the first table", x.two(1), 5);
        x.thing(0, 0, 5);
        CHECK.due("after another size", x.two(0), 6);
        CHECK.due("the second of it", x.two(3), 6);
    }

    private static void without() {
        OpenPots x = new OpenPots();
        Check.shop(x, "wa;wbc<0;wa<1;wde");
        CHECK.due("best(0)", x.best(0), 3);
        CHECK.due("without(0)", x.without(0), 2);
        CHECK.due("without(1)", x.without(1), 2);
        CHECK.due("without(2)", x.without(2), 2);
        CHECK.due("without(3)", x.without(3), 3);
        CHECK.due("without(4)", x.without(4), OpenPots.UNKNOWN);
        CHECK.due("widest()", x.widest(), 0);
        CHECK.due("why(0, 1)", x.why(0, 1), 2);
        CHECK.due("why(1, 2)", x.why(1, 2), 2);
        CHECK.due("why(2, 1)", x.why(2, 1), OpenPots.STATE);
        CHECK.due("why(0, 0)", x.why(0, 0), OpenPots.STATE);
        CHECK.due("why(0, 4)", x.why(0, 4), OpenPots.UNKNOWN);
        CHECK.due("why(-1, 4)", x.why(-1, 4), OpenPots.UNKNOWN);
        CHECK.due("nothing was changed", x.many(2), 2);
        CHECK.due("best(0) still", x.best(0), 3);
        x.thing(1, 0, 4);
        CHECK.due("widest() now", x.widest(), 1);
        CHECK.due("without(1)", x.without(1), 2);
        CHECK.due("without(0)", x.without(0), 5);
        // Once 2 has gone, 3 need not be behind 1.
        Check.shop(x, "wac;wad<0;w<1;wac<2");
        CHECK.due("befores go both ways", x.without(2), 2);
        CHECK.due("with it", x.best(0), 3);
    }
}
