/** Promises 12 to 16: cross, knot, bound, part, within. */
public final class BoundsTest {
    private static final Check CHECK = new Check();

    public static void main(String[] args) {
        crossings();
        knots();
        theBound();
        parts();
        inside();
        noWorks();
        CHECK.end();
    }

    private static void noWorks() {
        OpenPots x = new OpenPots();
        CHECK.due("cross(0) of none", x.cross(0), 0);
        CHECK.due("cross(1) of none", x.cross(1), OpenPots.OUTSIDE);
        CHECK.due("knot(0) of none", x.knot(0), 0);
        CHECK.due("knot(1) of none", x.knot(1), 0);
        CHECK.due("bound() of none", x.bound(), 0);
        CHECK.due("part(-1) of none", x.part(-1), 0);
        CHECK.due("within() of none", x.within(), 0);
    }

    private static void crossings() {
        OpenPots x = new OpenPots();
        Check.shop(x, "wab;wbc;wcd;wda;se9;sb5");
        int[] free = {0, 2, 2, 2, 0};
        for (int k = 0; k <= 4; k++) {
            CHECK.due("cross(" + k + ")", x.cross(k), free[k]);
        }
        // Now 0 is first: b crosses behind it, and it or another one later.
        x.before(0, 1, true);
        x.before(0, 2, true);
        x.before(0, 3, true);
        int[] bound = {0, 6, 2, 2, 0};
        for (int k = 0; k <= 4; k++) {
            CHECK.due("cross(" + k + ") bound", x.cross(k), bound[k]);
        }
        x.thing(0, 0, 9);
        CHECK.due("cross(1) by another size", x.cross(1), 14);
        CHECK.due("cross(-1)", x.cross(-1), OpenPots.OUTSIDE);
        CHECK.due("cross(5)", x.cross(5), OpenPots.OUTSIDE);
        x.work(0, 0);
        CHECK.due("cross(1) with one that needs nothing", x.cross(1), 0);
    }

    private static void knots() {
        OpenPots x = new OpenPots();
        Check.shop(x, "wab;wbc;wac;wd;we;se3");
        CHECK.due("the least of two alike", x.knot(0), 7);
        CHECK.due("its size", x.knot(1), 3);
        x.thing(4, 0, 4);
        CHECK.due("a greater one", x.knot(0), 16);
        CHECK.due("its size", x.knot(1), 4);
        x.thing(9, 0, 9);
        CHECK.due("not of what no work needs", x.knot(0), 16);
        x.thing(2, 0, 9);
        CHECK.due("again all three", x.knot(0), 7);
        CHECK.due("their size", x.knot(1), 11);
        x.work(512 | 16, 0);
        CHECK.due("the tenth thing", x.knot(0), 528);
        CHECK.due("its size", x.knot(1), 13);
        CHECK.due("knot(2)", x.knot(2), OpenPots.OUTSIDE);
        CHECK.due("knot(-1)", x.knot(-1), OpenPots.OUTSIDE);
        Check.shop(x, "w;w");
        CHECK.due("no things needed", x.knot(0), 0);
    }

    private static void theBound() {
        OpenPots x = new OpenPots();
        // Each of the three is the greatest once.
        Check.shop(x, "wab;wbc;wac");
        CHECK.due("by a knot", x.bound(), 3);
        Check.shop(x, "wabcd;wd");
        CHECK.due("by a work", x.bound(), 4);
        Check.shop(x, "wa;wb;wc;wd<0<1<2;wa<3;wb<3;wc<3");
        CHECK.due("by what crosses", x.bound(), 3);
        CHECK.due("it is no knot", x.knot(1), 1);
        x.thing(3, 0, 7);
        CHECK.due("by a work's size", x.bound(), 7);
    }

    private static void parts() {
        OpenPots x = new OpenPots();
        Check.shop(x, "wab;w;wc;wcd;w<0;wbe;we;wd");
        CHECK.due("parts", x.part(-1), 4);
        int[] least = {0, 1, 2, 2, 4, 0, 0, 2};
        for (int w = 0; w < 8; w++) {
            CHECK.due("part(" + w + ")", x.part(w), least[w]);
        }
        CHECK.due("part(8)", x.part(8), OpenPots.UNKNOWN);
        CHECK.due("part(-2)", x.part(-2), OpenPots.UNKNOWN);
        // A chain that is told from its end.
        Check.shop(x, "wa;wde;wcd;wbc;wab");
        CHECK.due("one part", x.part(-1), 1);
        CHECK.due("part(1)", x.part(1), 0);
        x.work(512, 0);
        CHECK.due("two parts", x.part(-1), 2);
    }

    private static void inside() {
        OpenPots x = new OpenPots();
        Check.shop(x, "wa;wab;wab;w;wbc;wd;w");
        CHECK.due("within()", x.within(), 1 | 4 | 8 | 64);
        Check.shop(x, "w");
        CHECK.due("one alone", x.within(), 0);
        Check.shop(x, "w;w;w");
        CHECK.due("all without things", x.within(), 6);
        Check.shop(x, "wab;wa;wb");
        CHECK.due("later ones", x.within(), 6);
        Check.shop(x, "wab;wbc;wac");
        CHECK.due("not by two others together", x.within(), 0);
    }
}
