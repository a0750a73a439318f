/** Counts answers that are not as due. */
final class Check {
    private int asked;
    private int wrong;
    private int sentences;
    private int askedOfSentence = 1;
    private String sentence = "";

    /**
     * From here on answers hold the class to these words of the document: of a promise by its number, 0 for what
     * stands ahead of the promises. SentencesTest looks whether the words are there, and whether all are held to.
     */
    void says(int promise, String words) {
        endSentence();
        sentences++;
        askedOfSentence = 0;
        sentence = "[" + promise + ": " + words + "] ";
    }

    void due(String call, long got, long want) {
        asked++;
        askedOfSentence++;
        if (got != want) {
            wrong++;
            System.out.println(sentence + call + " answered " + got + ", due is " + want);
        }
    }

    private void endSentence() {
        if (askedOfSentence == 0) {
            wrong++;
            System.out.println(sentence + "nothing was asked");
        }
    }

    void end() {
        endSentence();
        String ofSentences = sentences == 0 ? "" : " to " + sentences + " sentences";
        System.out.println(asked + " answers" + ofSentences + ", " + wrong + " not as due");
        if (wrong != 0 || asked == 0) {
            System.exit(1);
        }
    }

    /** A new object whose shop is by this text. */
    static OpenPots shopOf(String text) {
        OpenPots x = new OpenPots();
        shop(x, text);
        return x;
    }

    /** Puts a text as bytes on SHEET 3 and lets the shop take it. */
    static int shop(OpenPots x, String text) {
        x.sheet(3, 0, text.length());
        for (int i = 0; i < text.length(); i++) {
            x.put(3, i, text.charAt(i));
        }
        return x.shop(3, 0, 0, text.length());
    }

    /** Puts works as ints on SHEET 2 and makes an order of them. */
    static int order(OpenPots x, int kind, int... row) {
        x.sheet(2, 2, row.length);
        for (int i = 0; i < row.length; i++) {
            x.put(2, i, row[i]);
        }
        return x.order(kind, 2, 2, 0, row.length);
    }

    /** The row of an order as a number with a digit for each work. */
    static long row(OpenPots x, int o) {
        long row = 0;
        for (int k = 0; k < x.many(0); k++) {
            row = row * 10 + x.ofOrder(o, 10 + k);
        }
        return row;
    }

    static long bestRow(OpenPots x) {
        long row = 0;
        for (int k = 0; k < x.many(0); k++) {
            row = row * 10 + x.best(10 + k);
        }
        return row;
    }
}
