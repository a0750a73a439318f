import java.util.Random;

/** Runs of calls by chance (always the same ones) on the class and on the plain model, answer by answer. */
public final class RandomRunsTest {
    private static final int RUNS = 400, CALLS = 250;

    private final Check check = new Check();
    private final Random chance = new Random(20261118);
    private OpenPots x;
    private Plain y;
    private int run;

    public static void main(String[] args) {
        RandomRunsTest test = new RandomRunsTest();
        for (test.run = 0; test.run < RUNS; test.run++) {
            test.x = new OpenPots();
            test.y = new Plain();
            test.begin();
            for (int k = 0; k < CALLS; k++) {
                test.call();
            }
        }
        test.check.end();
    }

    private void due(String call, long got, long want) {
        check.due("run " + run + ": " + call, got, want);
    }

    private int number(int from, int to) {
        return from + chance.nextInt(to - from + 1);
    }

    /** Mostly within the bounds, at times just beyond them or far off. */
    private int near(int from, int to) {
        int kind = chance.nextInt(40);
        if (kind == 0) {
            return from - 1;
        }
        if (kind == 1) {
            return to + 1;
        }
        if (kind == 2) {
            return chance.nextBoolean() ? Integer.MIN_VALUE : Integer.MAX_VALUE;
        }
        return number(from, to);
    }

    private void begin() {
        if (chance.nextInt(8) != 0) {
            text(number(1, 7), number(1, 6), false);
        }
    }

    /** At most seven works and six things: the plain model tries every order and every set. */
    private void text(int works, int things, boolean spoil) {
        StringBuilder text = new StringBuilder();
        for (int w = 0; w < works; w++) {
            text.append(w == 0 ? "w" : ";w");
            for (int t = 0; t < things; t++) {
                if (chance.nextInt(5) < 2) {
                    text.append((char) ('a' + t));
                }
            }
            for (int v = 0; v < w; v++) {
                if (chance.nextInt(9) == 0) {
                    text.append('<').append(v);
                }
            }
        }
        for (int t = 0; t < things && works + t < 12; t++) {
            if (chance.nextInt(3) == 0) {
                text.append(";s").append((char) ('a' + t)).append(number(1, 9));
            }
        }
        if (spoil && text.length() > 0) {
            String codes = "ws<;abcj019?";
            for (int k = number(0, 2); k > 0; k--) {
                text.setCharAt(chance.nextInt(text.length()), codes.charAt(chance.nextInt(codes.length())));
            }
            text.setLength(number(0, text.length()));
        }
        takeText(text.toString());
    }

    private void takeText(String text) {
        String cut = text.substring(0, Math.min(60, text.length()));
        int sheet = number(0, 3);
        int lane = number(0, 2);
        sheet(sheet, lane, cut.length());
        for (int i = 0; i < cut.length(); i++) {
            put(sheet, i, cut.charAt(i));
        }
        due("shop " + cut, x.shop(sheet, lane, 0, cut.length()), y.shop(sheet, lane, 0, cut.length()));
        due("fault()", x.fault(), y.fault());
    }

    private void sheet(int k, int lane, int n) {
        due("sheet(" + k + ", " + lane + ", " + n + ")", x.sheet(k, lane, n), y.sheet(k, lane, n));
        due("fault()", x.fault(), y.fault());
    }

    private void put(int k, int i, int v) {
        due("put(" + k + ", " + i + ", " + v + ")", x.put(k, i, v), y.put(k, i, v));
    }

    private void row() {
        int n = y.many(0);
        int sheet = number(0, 3);
        int lane = number(0, 2);
        int kind = near(0, 2);
        int[] row = new int[n];
        for (int k = 0; k < n; k++) {
            int at = number(0, k);
            row[k] = row[at];
            row[at] = k;
        }
        if (n > 0 && chance.nextInt(6) == 0) {
            row[number(0, n - 1)] = near(0, n);
        }
        sheet(sheet, lane, n + 1);
        for (int k = 0; k < n; k++) {
            put(sheet, k + 1, row[k]);
        }
        due("order of kind " + kind, x.order(kind, sheet, lane, 1, n), y.order(kind, sheet, lane, 1, n));
        due("fault()", x.fault(), y.fault());
    }

    private void call() {
        int group = chance.nextInt(12);
        if (group < 2) {
            callShop();
        } else if (group < 6) {
            callOrders();
        } else if (group < 7) {
            callBounds();
        } else if (group < 9) {
            callRoom();
        } else {
            callSheets();
        }
    }

    private void callShop() {
        int works = y.many(0);
        int a = near(0, Math.max(0, works - 1));
        int b = near(0, Math.max(0, works - 1));
        switch (chance.nextInt(12)) {
            case 0 -> text(number(1, 6), number(0, 6), true);
            case 1 -> text(number(0, 12), number(0, 2), true);
            case 2, 3 -> {
                if (works < 7) {
                    int needs = near(0, 63);
                    int ahead = chance.nextInt(2) * near(0, (1 << works) - 1);
                    due("work(" + needs + ", " + ahead + ")", x.work(needs, ahead), y.work(needs, ahead));
                }
            }
            case 4, 5 -> {
                int what = near(0, 1);
                due("ofWork(" + a + ", " + what + ")", x.ofWork(a, what), y.ofWork(a, what));
            }
            case 6, 7, 8, 9 -> {
                boolean is = chance.nextBoolean();
                due("before(" + a + ", " + b + ", " + is + ")", x.before(a, b, is), y.before(a, b, is));
            }
            default -> {
                int t = near(0, 9);
                int what = near(0, 1);
                int v = near(0, what == 0 ? 9 : 99);
                due("thing(" + t + ", " + what + ", " + v + ")", x.thing(t, what, v), y.thing(t, what, v));
            }
        }
    }

    private void callOrders() {
        int o = near(0, Math.max(0, y.many(1) - 1));
        int p = near(0, Math.max(0, y.many(1) - 1));
        int n = y.many(0);
        switch (chance.nextInt(9)) {
            case 0, 1 -> row();
            case 2 -> {
                int what = near(0, 40);
                due("ofOrder(" + o + ", " + what + ")", x.ofOrder(o, what), y.ofOrder(o, what));
                for (int k = 1; k < 4; k++) {
                    due("ofOrder(" + o + ", " + k + ")", x.ofOrder(o, k), y.ofOrder(o, k));
                }
            }
            case 3 -> {
                int what = chance.nextBoolean() ? near(0, 1) : near(10, 9 + Math.max(1, n));
                due("best(" + what + ")", x.best(what), y.best(what));
            }
            case 4 -> {
                int k = near(0, n);
                int what = near(0, 2);
                due("from(" + o + ", " + k + ", " + what + ")", x.from(o, k, what), y.from(o, k, what));
            }
            case 5 -> due("better(" + o + ", " + p + ")", x.better(o, p), y.better(o, p));
            case 6 -> {
                int rule = near(0, 2);
                int seen = near(1, 9);
                due("build(" + rule + ", " + seen + ")", x.build(rule, seen), y.build(rule, seen));
            }
            case 7 -> due("move(" + o + ")", x.move(o), y.move(o));
            default -> due("moves(" + o + ")", x.moves(o), y.moves(o));
        }
    }

    private void callBounds() {
        int k = near(0, y.many(0));
        int what = near(0, 1);
        int w = near(-1, y.many(0) - 1);
        switch (chance.nextInt(5)) {
            case 0 -> due("cross(" + k + ")", x.cross(k), y.cross(k));
            case 1 -> due("knot(" + what + ")", x.knot(what), y.knot(what));
            case 2 -> due("bound()", x.bound(), y.bound());
            case 3 -> due("part(" + w + ")", x.part(w), y.part(w));
            default -> due("within()", x.within(), y.within());
        }
    }

    private void callRoom() {
        int o = near(0, Math.max(0, y.many(1) - 1));
        int n = y.many(0);
        int w = near(0, Math.max(0, n - 1));
        int v = near(0, Math.max(0, n - 1));
        switch (chance.nextInt(20)) {
            case 0, 1, 2, 3, 4, 5 -> {
                int r = chance.nextInt(4) == 0 ? near(0, 99) : number(1, 20);
                due("cheapest(" + o + ", " + r + ")", x.cheapest(o, r), y.cheapest(o, r));
            }
            case 6 -> {
                int p = chance.nextInt(4) == 0 ? near(0, 9999) : number(0, 30);
                due("room(" + o + ", " + p + ")", x.room(o, p), y.room(o, p));
            }
            case 7 -> {
                int what = near(0, 3);
                if (n < 7) {
                    due("two(" + what + ")", x.two(what), y.two(what));
                }
            }
            case 8, 9, 10, 11 -> due("without(" + w + ")", x.without(w), y.without(w));
            case 12 -> due("widest()", x.widest(), y.widest());
            default -> due("why(" + w + ", " + v + ")", x.why(w, v), y.why(w, v));
        }
    }

    private void callSheets() {
        int k = near(0, 3);
        int lane = near(0, 2);
        int i = near(0, 60);
        int n = near(-1, 61);
        int o = near(0, Math.max(0, y.many(1) - 1));
        switch (chance.nextInt(14)) {
            case 0 -> due("sheet(" + k + ", " + lane + ", " + n + ")", x.sheet(k, lane, n), y.sheet(k, lane, n));
            case 1 -> due("lose(" + k + ")", x.lose(k), y.lose(k));
            case 2, 3 -> put(k, i, chance.nextInt());
            case 4, 5 -> due("cell(" + k + ", " + i + ", " + lane + ")", x.cell(k, i, lane), y.cell(k, i, lane));
            case 6, 7 -> due("tell(" + o + ")", x.tell(o), y.tell(o));
            case 8 -> due("show(" + o + ")", x.show(o), y.show(o));
            case 9 -> due("as(" + o + ", " + lane + ")", x.as(o, lane), y.as(o, lane));
            case 10 -> due("trace()", x.trace(), y.trace());
            case 11 -> {
                int what = near(0, 3);
                due("many(" + what + ")", x.many(what), y.many(what));
            }
            case 12 -> due("shop(" + k + ", " + lane + ", " + i + ", " + n + ")", x.shop(k, lane, i, n), y.shop(k, lane, i, n));
            default -> due("order(0, " + k + ", " + lane + ", " + i + ", " + n + ")", x.order(0, k, lane, i, n), y.order(0, k, lane, i, n));
        }
        due("fault()", x.fault(), y.fault());
    }
}
