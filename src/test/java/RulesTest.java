/** Promises 17 to 19: build, move, moves. */
public final class RulesTest {
    private static final Check CHECK = new Check();

    public static void main(String[] args) {
        refusing();
        rulesBySize();
        seen();
        moving();
        movingLawfully();
        full();
        CHECK.end();
    }

    private static void refusing() {
        OpenPots x = new OpenPots();
        CHECK.due("build of no works", x.build(0, 1), OpenPots.STATE);
        CHECK.due("no rule of no works", x.build(3, 1), OpenPots.OUTSIDE);
        CHECK.due("no rule", x.build(-1, 1), OpenPots.OUTSIDE);
        CHECK.due("sees nothing", x.build(0, 0), OpenPots.OUTSIDE);
        CHECK.due("sees too much", x.build(0, 10), OpenPots.OUTSIDE);
        CHECK.due("move(0) of none", x.move(0), OpenPots.UNKNOWN);
        CHECK.due("moves(0) of none", x.moves(0), OpenPots.UNKNOWN);
        CHECK.due("move(-1)", x.move(-1), OpenPots.UNKNOWN);
    }

    private static void rulesBySize() {
        OpenPots x = new OpenPots();
        // At first 0 closes c (1), 1 none, 2 closes d and e (2), 3 none; behind 2 and 0 only 3 closes something, b.
        Check.shop(x, "wabc;wa;wbde;wab");
        x.build(0, 9);
        CHECK.due("rule 0", Check.row(x, 0), 2031);
        x.thing(2, 0, 3);
        x.build(0, 9);
        CHECK.due("rule 0 by sizes", Check.row(x, 1), 231);
        x.build(1, 9);
        CHECK.due("rule 1", Check.row(x, 2), 1320);
        x.thing(0, 0, 9);
        x.build(1, 9);
        CHECK.due("rule 1 by sizes", Check.row(x, 3), 2130);
        // 2 opens 3 and closes 2; behind it 0 (12 less 3), 1 and 3 (9) are alike; behind 0 only 3 closes b.
        x.build(2, 9);
        CHECK.due("rule 2", Check.row(x, 4), 2031);
        x.thing(0, 0, 1);
        x.thing(2, 0, 1);
        // 1 and 2 are alike (1, 3 less 2); behind 1 are 0, 2 and 3; behind 0 3 closes a, and 2 opens what it closes.
        x.build(2, 9);
        CHECK.due("rule 2 with like ones", Check.row(x, 5), 1032);
        CHECK.due("kind", x.ofOrder(5, 0), 1);
    }

    private static void seen() {
        OpenPots x = new OpenPots();
        Check.shop(x, "wabcd;wabc;wab;wa<0");
        x.build(1, 1);
        CHECK.due("sees one", Check.row(x, 0), 123);
        x.build(1, 2);
        CHECK.due("sees two", Check.row(x, 1), 1203);
        x.build(1, 3);
        CHECK.due("sees three", Check.row(x, 2), 2103);
        Check.shop(x, "wa;wb;wc");
        x.before(1, 0, true);
        x.before(2, 1, true);
        // What must wait is not counted among what is seen.
        x.build(0, 1);
        CHECK.due("sees one that may come", Check.row(x, 0), 210);
    }

    private static void moving() {
        OpenPots x = new OpenPots();
        Check.shop(x, "wa;wb;wa");
        Check.order(x, 2, 0, 1, 2);
        // First to (1, 0, 2), which is tried ahead of (0, 2, 1); then to that, as the first of like ones.
        CHECK.due("moves", x.moves(0), 2);
        CHECK.due("many(1)", x.many(1), 1);
        CHECK.due("move", x.move(0), 1);
        CHECK.due("row", Check.row(x, 1), 21);
        CHECK.due("kind", x.ofOrder(1, 0), 1);
        CHECK.due("the old one stays", Check.row(x, 0), 12);
        CHECK.due("moves of one that is good", x.moves(1), 0);
        CHECK.due("move of it", x.move(1), 2);
        CHECK.due("row", Check.row(x, 2), 21);
        Check.shop(x, "w;w;w;w;w;w;w;w;w");
        Check.order(x, 0, 8, 7, 6, 5, 4, 3, 2, 1, 0);
        CHECK.due("all the way back", x.moves(0), 36);
        x.move(0);
        CHECK.due("row", Check.row(x, 1), 12345678);
    }

    private static void movingLawfully() {
        OpenPots x = new OpenPots();
        Check.shop(x, "wa;wb;wa;wc");
        Check.order(x, 2, 3, 0, 1, 2);
        x.before(3, 0, true);
        x.before(0, 1, true);
        x.before(1, 2, true);
        CHECK.due("there is but one", x.moves(0), 0);
        Check.order(x, 0, 0, 1, 2, 3);
        CHECK.due("moves of an unlawful one", x.moves(1), OpenPots.STATE);
        CHECK.due("move of an unlawful one", x.move(1), OpenPots.STATE);
        x.before(1, 2, false);
        CHECK.due("moves with more room", x.moves(0), 1);
        x.move(0);
        CHECK.due("row", Check.row(x, 2), 3021);
    }

    private static void full() {
        OpenPots x = new OpenPots();
        Check.shop(x, "wa;wb<0");
        for (int o = 0; o < 7; o++) {
            x.build(0, 1);
        }
        Check.order(x, 0, 1, 0);
        CHECK.due("full", x.build(0, 1), OpenPots.FULL);
        CHECK.due("full", x.move(0), OpenPots.FULL);
        CHECK.due("unlawful", x.move(7), OpenPots.STATE);
        CHECK.due("moves goes on", x.moves(0), 0);
        CHECK.due("many(1)", x.many(1), 8);
    }
}
