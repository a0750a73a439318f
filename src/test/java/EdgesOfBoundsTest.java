/** Section 3 of "Terms" and promises 12 to 16, sentence by sentence. */
public final class EdgesOfBoundsTest {
    private static final int UNKNOWN = -1, OUTSIDE = -2;
    private static final int[] FAR_OFF = {Integer.MIN_VALUE, Integer.MAX_VALUE};
    private static final String NINE = "w;w;w;w;w;w;w;w;w";
    private static final Check CHECK = new Check();

    public static void main(String[] args) {
        whatCrosses();
        whatIsAKnot();
        whichKnot();
        parts();
        within();
        asksCross();
        asksKnot();
        asksBound();
        asksPart();
        asksWithin();
        CHECK.end();
    }

    private static void crosses(OpenPots x, int... due) {
        for (int k = 0; k < due.length; k++) {
            CHECK.due("cross(" + k + ")", x.cross(k), due[k]);
        }
        CHECK.due("cross(" + due.length + ")", x.cross(due.length), OUTSIDE);
    }

    private static void whatCrosses() {
        CHECK.says(0, "CROSS of k WORKS: the least SIZE of THINGS that are NEEDED by some of a set of k WORKS and by some"
                + " that is not in it,");
        OpenPots x = Check.shopOf("wab;wbc;wcd;sb5");
        crosses(x, 0, 1, 1, 0);
        x.thing(2, 0, 9);
        crosses(x, 0, 5, 5, 0);
        x.thing(0, 0, 9);
        x.thing(3, 0, 9);
        crosses(x, 0, 5, 5, 0);
        Check.shop(x, "wab;wab;wab;sb9");
        crosses(x, 0, 10, 10, 0);
        Check.shop(x, "wa;wb;wc");
        crosses(x, 0, 0, 0, 0);
        CHECK.says(0, "over all sets with which each WORK's BEFORES are in it.");
        Check.shop(x, "wab;wbc<0;wcd<1;sb5");
        crosses(x, 0, 5, 1, 0);
        x.before(1, 2, false);
        crosses(x, 0, 1, 1, 0);
        x.before(2, 1, true);
        x.before(0, 1, false);
        crosses(x, 0, 1, 5, 0);
        // WORK 0 may have BEFORES, too.
        Check.shop(x, "wa;wab;wb;sb5");
        x.before(1, 0, true);
        x.before(2, 0, true);
        crosses(x, 0, 5, 1, 0);
        // One after another there is but one set of each number.
        Check.shop(x, "wa;wab;wbc;wcd;wde;wef;wfg;wgh;wh;sa1;sb2;sc3");
        for (int w = 1; w < 9; w++) {
            x.before(w - 1, w, true);
        }
        x.thing(7, 0, 9);
        crosses(x, 0, 1, 2, 3, 1, 1, 1, 1, 9, 0);
    }

    private static void knot(OpenPots x, int set, int size) {
        CHECK.due("knot(0)", x.knot(0), set);
        CHECK.due("knot(1)", x.knot(1), size);
    }

    private static void whatIsAKnot() {
        CHECK.says(0, "KNOT: a set of THINGS (each NEEDED by some WORK),");
        OpenPots x = Check.shopOf("wa;sj9");
        knot(x, 1, 1);
        Check.shop(x, "w;w;sj9");
        knot(x, 0, 0);
        CHECK.says(0, "of any two of which some WORK NEEDS both;");
        Check.shop(x, "wab;wbc;wac");
        knot(x, 7, 3);
        Check.shop(x, "wab;wbc;wcd;wda");
        knot(x, 3, 2);
        Check.shop(x, "wab;wbc;wcd;wda;wac");
        knot(x, 7, 3);
        Check.shop(x, "wab;wbc;wcd;wda;wac;wbd");
        knot(x, 15, 4);
        Check.shop(x, "wj;wi");
        knot(x, 256, 1);
    }

    private static void whichKnot() {
        CHECK.says(0, "the greatest by SIZE;");
        OpenPots x = Check.shopOf("wabc;wde;sd2;se2");
        knot(x, 24, 4);
        x.thing(3, 0, 1);
        knot(x, 7, 3);
        Check.shop(x, "wabcdefghij");
        for (int t = 0; t < 10; t++) {
            x.thing(t, 0, 9);
        }
        knot(x, 1023, 90);
        CHECK.says(0, "of several the least as a number.");
        Check.shop(x, "wij;wgh;wab");
        knot(x, 3, 2);
        Check.shop(x, "wj;wah;wi;sj2;si2");
        knot(x, 129, 2);
        Check.shop(x, "wj;wai;sj2");
        knot(x, 257, 2);
    }

    private static void partsAre(OpenPots x, int count, int... least) {
        CHECK.due("part(-1)", x.part(-1), count);
        for (int w = 0; w < least.length; w++) {
            CHECK.due("part(" + w + ")", x.part(w), least[w]);
        }
    }

    private static void parts() {
        CHECK.says(0, "PARTS: WORKS that share a THING are in one;");
        OpenPots x = Check.shopOf("wa;wb;wba;wc");
        partsAre(x, 2, 0, 0, 0, 3);
        CHECK.says(0, "those that are so joined, too;");
        Check.shop(x, "whj;wgh;wfg;wef;wde;wcd;wbc;wab;waj");
        partsAre(x, 1, 0, 0, 0, 0, 0, 0, 0, 0, 0);
        Check.shop(x, "wa;wi;wbc;wde;wab;wcd;wef;wfg;wgh");
        partsAre(x, 2, 0, 1, 0, 0, 0, 0, 0, 0, 0);
        Check.shop(x, "wi;wab;wbc;wj;wcd;wji");
        partsAre(x, 2, 0, 1, 1, 0, 1, 0);
        CHECK.says(0, "a WORK without THINGS is one alone.");
        Check.shop(x, "w;wa;w<0;wa");
        partsAre(x, 3, 0, 1, 2, 1);
        Check.shop(x, NINE);
        partsAre(x, 9, 0, 1, 2, 3, 4, 5, 6, 7, 8);
    }

    private static void within(String text, int set) {
        CHECK.due("within() of '" + text + "'", Check.shopOf(text).within(), set);
    }

    private static void within() {
        CHECK.says(0, "WITHIN: a WORK of which all THINGS are NEEDED by another WORK, too");
        within("wa;wab", 1);
        within("wab;wa", 2);
        within("wab;wbc", 0);
        within("wab;wa;wb", 6);
        within("wabc;wab;wac", 6);
        within("wab;wbc;wac", 0);
        within("wj;wabcdefghij", 1);
        // All THINGS of a WORK without any are NEEDED by each other one.
        within("w;wa", 1);
        within("w", 0);
        CHECK.says(0, "(of two alike the later one).");
        within("wab;wab", 2);
        within("wab;wab;wab", 6);
        within("wab;wab;wabc", 3);
        within("w;w", 2);
        within(NINE, 510);
        within("wc;wab;wc;wab", 12);
    }

    private static void asksCross() {
        CHECK.says(12, "CROSS of k WORKS (0 .. all).");
        crosses(new OpenPots(), 0);
        crosses(Check.shopOf("wab"), 0, 0);
        crosses(Check.shopOf("wa;wa;wa;wa;wa;wa;wa;wa;wa"), 0, 1, 1, 1, 1, 1, 1, 1, 1, 0);
        CHECK.says(12, "OUTSIDE.");
        OpenPots x = Check.shopOf("wa;wa");
        CHECK.due("cross(-1)", x.cross(-1), OUTSIDE);
        CHECK.due("cross(3)", x.cross(3), OUTSIDE);
        CHECK.due("cross(1) of none", new OpenPots().cross(1), OUTSIDE);
        for (int far : FAR_OFF) {
            CHECK.due("cross(" + far + ")", x.cross(far), OUTSIDE);
        }
    }

    private static void asksKnot() {
        CHECK.says(13, "The greatest KNOT (what 0), its SIZE (1).");
        knot(new OpenPots(), 0, 0);
        OpenPots x = Check.shopOf("wabj;sj7");
        knot(x, 515, 9);
        x.thing(9, 0, 1);
        knot(x, 515, 3);
        x.work(60, 0);
        knot(x, 60, 4);
        CHECK.says(13, "OUTSIDE.");
        CHECK.due("knot(-1)", x.knot(-1), OUTSIDE);
        CHECK.due("knot(2)", x.knot(2), OUTSIDE);
        for (int far : FAR_OFF) {
            CHECK.due("knot(" + far + ")", x.knot(far), OUTSIDE);
        }
    }

    private static void bound(String text, int due) {
        CHECK.due("bound() of '" + text + "'", Check.shopOf(text).bound(), due);
    }

    private static void asksBound() {
        CHECK.says(14, "The greatest of: CROSS, a WORK's THINGS by SIZE, the KNOT's SIZE.");
        CHECK.due("bound() of none", new OpenPots().bound(), 0);
        bound("w", 0);
        // What crosses alone: 3 in its middle, while no work and no knot has more than 1.
        bound("wa;wb;wc;w<0<1<2;wa<3;wb<3;wc<3", 3);
        // A work is a knot, too; so a knot that is none, and one that is a work's.
        bound("wab;wbc;wac", 3);
        bound("wabcdefghij;wa", 10);
        bound("wa;wb;wb;sa9", 9);
        OpenPots x = Check.shopOf("wa;wb;wc;w<0<1<2;wa<3;wb<3;wc<3");
        x.thing(0, 0, 9);
        CHECK.due("what crosses by SIZE", x.bound(), 11);
        x.before(0, 3, false);
        CHECK.due("a does not cross any more", x.bound(), 9);
    }

    private static void asksPart() {
        CHECK.says(15, "How many PARTS there are (w -1), the least WORK of a WORK's PART.");
        partsAre(new OpenPots(), 0);
        partsAre(Check.shopOf("wab"), 1, 0);
        OpenPots x = Check.shopOf("wab;wc;wd;wcb");
        partsAre(x, 2, 0, 0, 2, 0);
        x.work(8, 0);
        partsAre(x, 2, 0, 0, 2, 0, 2);
        CHECK.says(15, "UNKNOWN.");
        CHECK.due("part(-2)", x.part(-2), UNKNOWN);
        CHECK.due("part(5)", x.part(5), UNKNOWN);
        CHECK.due("part(0) of none", new OpenPots().part(0), UNKNOWN);
        for (int far : FAR_OFF) {
            CHECK.due("part(" + far + ")", x.part(far), UNKNOWN);
        }
    }

    private static void asksWithin() {
        CHECK.says(16, "WORKS that are WITHIN another one, as a set.");
        CHECK.due("within() of none", new OpenPots().within(), 0);
        within("wabcdefghij;wa;wb;wc;wd;we;wf;wg;wh", 510);
        within("wa;wb;wc;wd;we;wf;wg;wh;wabcdefghij", 255);
        OpenPots x = Check.shopOf("wab;wcd");
        CHECK.due("none", x.within(), 0);
        x.work(12, 0);
        CHECK.due("a late one", x.within(), 4);
        x.work(15, 0);
        CHECK.due("behind a late one", x.within(), 7);
    }
}
