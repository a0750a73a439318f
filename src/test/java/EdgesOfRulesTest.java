/** Section 4 of "Terms" and promises 17 to 19, sentence by sentence. */
public final class EdgesOfRulesTest {
    private static final int UNKNOWN = -1, OUTSIDE = -2, STATE = -3, FULL = -4;
    private static final int[] FAR_OFF = {Integer.MIN_VALUE, Integer.MAX_VALUE};
    private static final String NINE = "w;w;w;w;w;w;w;w;w";
    private static final Check CHECK = new Check();

    public static void main(String[] args) {
        seen();
        ruleZero();
        ruleOne();
        ruleTwo();
        likeOnes();
        triedInTurn();
        beginsAgain();
        asksBuild();
        asksMove();
        asksMoves();
        CHECK.end();
    }

    private static void built(String text, int rule, int seen, long row) {
        OpenPots x = Check.shopOf(text);
        CHECK.due("build", x.build(rule, seen), 0);
        CHECK.due("row of '" + text + "' by rule " + rule + ", seen " + seen, Check.row(x, 0), row);
    }

    private static void seen() {
        CHECK.says(0, "A RULE builds an ORDER: at each place of the SEEN (1 .. 9) not yet done WORKS of the least numbers"
                + " of which all BEFORES are done,");
        String narrowing = "wabc;wab;wa;w";
        built(narrowing, 1, 1, 123);
        built(narrowing, 1, 2, 1230);
        built(narrowing, 1, 3, 2310);
        built(narrowing, 1, 4, 3210);
        built(narrowing, 1, 9, 3210);
        // All nine are seen, or all but the last one; behind the first one all open nothing.
        String last = "wa;wa;wa;wa;wa;wa;wa;wa;w";
        built(last, 1, 8, 12345678);
        built(last, 1, 9, 801234567);
        // What has to wait is not among them, and comes as soon as it may.
        OpenPots x = Check.shopOf("w;w;w");
        x.before(2, 0, true);
        x.build(0, 1);
        CHECK.due("row", Check.row(x, 0), 120);
        x.before(2, 1, true);
        x.build(0, 1);
        CHECK.due("row", Check.row(x, 1), 201);
        x.before(0, 1, true);
        x.build(0, 9);
        CHECK.due("row", Check.row(x, 2), 201);
        x.before(0, 1, false);
        x.before(1, 0, true);
        x.build(0, 9);
        CHECK.due("row", Check.row(x, 3), 210);
    }

    private static void ruleZero() {
        CHECK.says(0, "by rule 0 the one that CLOSES the most SIZE (THINGS that no WORK behind it NEEDS),");
        built("wa;wb;wab;wc", 0, 9, 3021);
        built("wab;wc;sc2", 0, 9, 1);
        built("wab;wc;sc3", 0, 9, 10);
        // What it closes counts, not what lies open: 0 opens much and closes little.
        built("wabcd;wbcd;we", 0, 9, 12);
        built("wabcd;wbcd;we;se2", 0, 9, 201);
        // Of what it does not NEED nothing is closed.
        built("wa;wb;wa", 0, 1, 12);
    }

    private static void ruleOne() {
        CHECK.says(0, "1 that OPENS the least (THINGS that no WORK ahead NEEDS),");
        built("wab;wc", 1, 9, 10);
        built("wab;wc;sc2", 1, 9, 1);
        built("wab;wc;sc3", 1, 9, 1);
        // Once b lies open, 0 opens a alone.
        built("wab;wb;wcd;wc", 1, 9, 1032);
        built("wa;wa;w", 1, 9, 201);
    }

    private static void ruleTwo() {
        CHECK.says(0, "2 that OPENS least SIZE less that it CLOSES;");
        built("wab;wbc;wc", 2, 9, 12);
        built("wab;wbc;wc;sb3", 2, 9, 210);
        built("wa;wb;wa", 2, 9, 102);
        // What closes without opening is below nothing.
        OpenPots x = Check.shopOf("wa;w<0;wa");
        x.build(2, 9);
        CHECK.due("row", Check.row(x, 0), 21);
    }

    private static void likeOnes() {
        CHECK.says(0, "of several the least number.");
        for (int rule = 0; rule < 3; rule++) {
            built(NINE, rule, 9, 12345678);
            built("wa;wb;wc;wd;we;wf;wg;wh;wi", rule, 9, 12345678);
            built("wab;wab;wab", rule, 9, 12);
        }
        built("wab;wc;wd;wef;sc2;sd2", 0, 9, 123);
        built("wab;wc;wd;wef;sc2;sd2", 1, 9, 123);
    }

    private static void triedInTurn() {
        CHECK.says(0, "MOVES: a WORK of an ORDER goes from a place to another one (the others close up); it is tried from"
                + " each place in turn, to each place in turn;");
        // (0, 1, 2): the first place to the second one is good already; (1, 0, 2): the first one to the last one.
        moved("wa;wb;wa", new int[] {0, 1, 2}, 2, 21);
        // (3, 0, 1, 2) comes first, and is as narrow; then 3 goes to the last place, and the others close up.
        moved("wa;wa<0;wa<1;wb", new int[] {0, 1, 3, 2}, 2, 123);
        // From the last place to the first one.
        moved("wb;wa;wa<1;wa<2", new int[] {1, 2, 3, 0}, 1, 123);
        // (0, 2, 3, 1, 4), (0, 2, 1, 3, 4), (0, 1, 2, 3, 4).
        moved("wb;wc;wa;wa<2;wa<3", new int[] {2, 0, 3, 1, 4}, 3, 1234);
        moved("w;wa;wa<1;wa<2", new int[] {1, 0, 2, 3}, 1, 123);
    }

    private static void moved(String text, int[] start, int moves, long row) {
        OpenPots x = Check.shopOf(text);
        Check.order(x, 0, start);
        CHECK.due("moves of '" + text + "'", x.moves(0), moves);
        CHECK.due("move", x.move(0), 1);
        CHECK.due("row of '" + text + "'", Check.row(x, 1), row);
    }

    private static void beginsAgain() {
        CHECK.says(0, "the first one by which a LAWFUL, BETTER ORDER comes is done, and all begins again, till there is"
                + " none.");
        moved(NINE, new int[] {8, 7, 6, 5, 4, 3, 2, 1, 0}, 36, 12345678);
        moved(NINE, new int[] {0, 1, 2, 3, 4, 5, 6, 7, 8}, 0, 12345678);
        // Where BEFORES leave but one row, none is done.
        OpenPots x = Check.shopOf("wa;wb;wa");
        Check.order(x, 0, 0, 1, 2);
        x.before(0, 1, true);
        x.before(1, 2, true);
        CHECK.due("moves of the only row", x.moves(0), 0);
        x.before(0, 1, false);
        CHECK.due("moves of a freer one", x.moves(0), 1);
        x.move(0);
        CHECK.due("its row", Check.row(x, 1), 102);
        CHECK.due("one that is as good as can be", x.moves(1), 0);
    }

    private static void asksBuild() {
        CHECK.says(17, "An ORDER (of kind 1) built by a RULE: its number.");
        OpenPots x = Check.shopOf("wa;wb<0");
        for (int rule = 0; rule < 3; rule++) {
            CHECK.due("by rule " + rule, x.build(rule, 1), 2 * rule);
            CHECK.due("seen 9", x.build(rule, 9), 2 * rule + 1);
            CHECK.due("its kind", x.ofOrder(2 * rule, 0), 1);
            CHECK.due("it is LAWFUL", x.ofOrder(2 * rule, 3), 1);
            CHECK.due("its row", Check.row(x, 2 * rule), 1);
        }
        CHECK.says(17, "OUTSIDE: rule, seen;");
        CHECK.due("rule -1", x.build(-1, 1), OUTSIDE);
        CHECK.due("rule 3", x.build(3, 1), OUTSIDE);
        CHECK.due("seen 0", x.build(0, 0), OUTSIDE);
        CHECK.due("seen -1", x.build(0, -1), OUTSIDE);
        CHECK.due("seen 10", x.build(0, 10), OUTSIDE);
        for (int far : FAR_OFF) {
            CHECK.due("rule " + far, x.build(far, 1), OUTSIDE);
            CHECK.due("seen " + far, x.build(0, far), OUTSIDE);
        }
        CHECK.due("many(1)", x.many(1), 6);
        CHECK.says(17, "STATE: there are no WORKS;");
        CHECK.due("of none", new OpenPots().build(0, 1), STATE);
        CHECK.says(17, "FULL.");
        CHECK.due("a seventh", x.build(0, 1), 6);
        CHECK.due("an eighth", x.build(0, 1), 7);
        CHECK.due("a ninth", x.build(0, 1), FULL);
        CHECK.due("many(1)", x.many(1), 8);
    }

    private static void asksMove() {
        OpenPots x = Check.shopOf("wa;wb;wa;wc");
        Check.order(x, 2, 3, 0, 2, 1);
        CHECK.says(18, "An ORDER by MOVES from one that is LAWFUL: the new one's number (of kind 1, even if none is done).");
        CHECK.due("of an AGAIN", x.move(0), 1);
        CHECK.due("its kind", x.ofOrder(1, 0), 1);
        CHECK.due("its row", Check.row(x, 1), 213);
        CHECK.due("none is done", x.move(1), 2);
        CHECK.due("its kind", x.ofOrder(2, 0), 1);
        CHECK.due("its row", Check.row(x, 2), 213);
        CHECK.due("the old one's kind", x.ofOrder(0, 0), 2);
        CHECK.due("the old one's row", Check.row(x, 0), 3021);
        Check.order(x, 0, 0, 2, 1, 3);
        CHECK.due("none is done of a ROW", x.move(3), 4);
        CHECK.due("its kind", x.ofOrder(4, 0), 1);
        CHECK.says(18, "UNKNOWN;");
        CHECK.due("move(-1)", x.move(-1), UNKNOWN);
        CHECK.due("move(5)", x.move(5), UNKNOWN);
        for (int far : FAR_OFF) {
            CHECK.due("move(" + far + ")", x.move(far), UNKNOWN);
        }
        CHECK.says(18, "STATE: it is not LAWFUL;");
        x.before(1, 2, true);
        CHECK.due("a BEFORE that is not LAWFUL now", x.move(1), STATE);
        CHECK.due("a ROW that is not LAWFUL now", x.move(3), STATE);
        CHECK.due("many(1)", x.many(1), 5);
        x.before(1, 2, false);
        CHECK.due("LAWFUL again", x.move(1), 5);
        CHECK.says(18, "FULL.");
        CHECK.due("a seventh", x.move(0), 6);
        CHECK.due("an eighth", x.move(0), 7);
        CHECK.due("a ninth", x.move(0), FULL);
        CHECK.due("a ninth, though none is done", x.move(1), FULL);
    }

    private static void asksMoves() {
        OpenPots x = Check.shopOf("wa;wb;wa");
        Check.order(x, 0, 0, 1, 2);
        Check.order(x, 0, 0, 2, 1);
        CHECK.says(19, "How many MOVES that takes.");
        CHECK.due("two", x.moves(0), 2);
        CHECK.due("none", x.moves(1), 0);
        CHECK.due("no order is made", x.many(1), 2);
        CHECK.due("the old one stays", Check.row(x, 0), 12);
        OpenPots one = Check.shopOf("wa");
        one.build(0, 1);
        CHECK.due("of one work", one.moves(0), 0);
        for (int o = 2; o < 8; o++) {
            x.build(0, 1);
        }
        CHECK.due("though there are eight", x.moves(0), 2);
        CHECK.says(19, "UNKNOWN;");
        CHECK.due("moves(-1)", x.moves(-1), UNKNOWN);
        CHECK.due("moves(8)", x.moves(8), UNKNOWN);
        CHECK.due("moves(1) of one", one.moves(1), UNKNOWN);
        for (int far : FAR_OFF) {
            CHECK.due("moves(" + far + ")", x.moves(far), UNKNOWN);
        }
        CHECK.says(19, "STATE.");
        x.before(1, 2, true);
        CHECK.due("not LAWFUL", x.moves(1), STATE);
        CHECK.due("LAWFUL", x.moves(0), 1);
    }
}
