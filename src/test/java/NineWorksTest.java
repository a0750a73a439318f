/** Every call with as many works, things, orders and cells as there can be: nothing is thrown, all is in its bounds. */
public final class NineWorksTest {
    private static final Check CHECK = new Check();

    public static void main(String[] args) {
        OpenPots x = new OpenPots();
        // A chain 0 to 8; each work shares a thing with the next, and the last has the tenth one.
        Check.shop(x, "wa;wab;wbc;wcd;wde;wef;wfg;wgh;whij;sj9");
        for (int w = 1; w < 9; w++) {
            CHECK.due("before", x.before(w - 1, w, true), 1);
        }
        CHECK.due("a ring of nine", x.before(8, 0, true), OpenPots.STATE);
        CHECK.due("many(2)", x.many(2), 8);
        CHECK.due("many(3)", x.many(3), 10);
        for (int o = 0; o < 8; o++) {
            CHECK.due("order", Check.order(x, 2, 0, 1, 2, 3, 4, 5, 6, 7, 8), o);
        }
        CHECK.due("most", x.ofOrder(7, 1), 11);
        CHECK.due("long", x.ofOrder(7, 2), 1 + 7 * 2 + 11);
        CHECK.due("best", Check.bestRow(x), 12345678);
        CHECK.due("the last", x.ofOrder(7, 18), 8);
        CHECK.due("open at the last", x.ofOrder(7, 28), 128 + 256 + 512);
        CHECK.due("wide at the last", x.ofOrder(7, 38), 11);
        CHECK.due("no tenth", x.ofOrder(7, 19), OpenPots.OUTSIDE);
        for (int k = 0; k <= 9; k++) {
            CHECK.due("cross(" + k + ")", x.cross(k), k == 0 || k == 9 ? 0 : 1);
            CHECK.due("from(" + k + ")", x.from(7, k, 2), k == 9 ? OpenPots.NONE : k);
        }
        CHECK.due("knot(0)", x.knot(0), 128 + 256 + 512);
        CHECK.due("bound()", x.bound(), 11);
        CHECK.due("part(-1)", x.part(-1), 1);
        CHECK.due("part(8)", x.part(8), 0);
        CHECK.due("within()", x.within(), 1);
        CHECK.due("moves(7)", x.moves(7), 0);
        CHECK.due("room(7, 0)", x.room(7, 0), 11);
        CHECK.due("two(0)", x.two(0), 11);
        CHECK.due("widest()", x.widest(), 8);
        CHECK.due("without(8)", x.without(8), 2);
        CHECK.due("why(7, 8)", x.why(7, 8), 11);
        fewerAgain(x);
        CHECK.end();
    }

    /** What nine works left behind is not seen by fewer. */
    private static void fewerAgain(OpenPots x) {
        CHECK.due("fewer", Check.shop(x, "wab;wc<0"), 2);
        CHECK.due("many(2)", x.many(2), 1);
        CHECK.due("many(3)", x.many(3), 3);
        CHECK.due("bound()", x.bound(), 2);
        CHECK.due("part(-1)", x.part(-1), 2);
        CHECK.due("two(0)", x.two(0), 2);
        CHECK.due("widest()", x.widest(), 0);
        CHECK.due("cross(2)", x.cross(2), 0);
        CHECK.due("cross(3)", x.cross(3), OpenPots.OUTSIDE);
        CHECK.due("best", Check.bestRow(x), 1);
        CHECK.due("build", x.build(0, 9), 0);
        CHECK.due("row", Check.row(x, 0), 1);
        CHECK.due("no third", x.ofOrder(0, 12), OpenPots.OUTSIDE);
    }
}
