/** Counts answers that are not as due. */
final class Check {
    private int asked;
    private int wrong;

    void due(String call, long got, long want) {
        asked++;
        if (got != want) {
            wrong++;
            System.out.println(call + " answered " + got + ", due is " + want);
        }
    }

    void end() {
        System.out.println(asked + " answers, " + wrong + " not as due");
        if (wrong != 0 || asked == 0) {
            System.exit(1);
        }
    }

    /** Puts a text as bytes on SHEET 3 and lets the shop take it. */
    static int shop(OpenPots x, String text) {
        x.sheet(3, 0, text.length());
        for (int i = 0; i < text.length(); i++) {
            x.put(3, i, text.charAt(i));
        }
        return x.shop(3, 0, 0, text.length());
    }

    /** Puts works as ints on SHEET 2 and makes an order of them. */
    static int order(OpenPots x, int kind, int... row) {
        x.sheet(2, 2, row.length);
        for (int i = 0; i < row.length; i++) {
            x.put(2, i, row[i]);
        }
        return x.order(kind, 2, 2, 0, row.length);
    }

    /** The row of an order as a number with a digit for each work. */
    static long row(OpenPots x, int o) {
        long row = 0;
        for (int k = 0; k < x.many(0); k++) {
            row = row * 10 + x.ofOrder(o, 10 + k);
        }
        return row;
    }

    static long bestRow(OpenPots x) {
        long row = 0;
        for (int k = 0; k < x.many(0); k++) {
            row = row * 10 + x.best(10 + k);
        }
        return row;
    }
}
