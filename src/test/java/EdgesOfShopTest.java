/** Section 1 of "Terms" and promises 1 to 6, sentence by sentence. */
public final class EdgesOfShopTest {
    private static final int UNKNOWN = -1, OUTSIDE = -2, STATE = -3, FULL = -4;
    private static final String NINE = "w;w;w;w;w;w;w;w;w";
    private static final String TEN_SIZES = ";sa1;sb2;sc3;sd4;se5;sf6;sg7;sh8;si9;sj1";
    private static final Check CHECK = new Check();

    public static void main(String[] args) {
        newObject();
        things();
        nineWorks();
        rings();
        items();
        letters();
        befores();
        sizes();
        firstFaults();
        letStand();
        endedTooSoon();
        codes();
        whatATextMakes();
        cellsOfAText();
        refusedShops();
        moreWorks();
        ofWorks();
        beforeOrNot();
        changingThings();
        CHECK.end();
    }

    private static void text(String text, int want) {
        CHECK.due("shop '" + text + "'", Check.shop(new OpenPots(), text), want);
    }

    private static void fault(String text, int place) {
        text(text, -100 - place);
    }

    private static void newObject() {
        CHECK.says(1, "No WORKS, ORDERS, SHEETS.");
        OpenPots x = new OpenPots();
        CHECK.due("fault()", x.fault(), 0);
        CHECK.due("trace()", x.trace(), 0);
        for (int what = 0; what < 4; what++) {
            CHECK.due("many(" + what + ")", x.many(what), 0);
        }
        CHECK.due("no WORK 0", x.ofWork(0, 0), UNKNOWN);
        CHECK.due("no ORDER 0", x.ofOrder(0, 0), UNKNOWN);
        for (int k = 0; k < 4; k++) {
            CHECK.due("put(" + k + ", 0, 0)", x.put(k, 0, 0), -11);
            CHECK.due("lose(" + k + ")", x.lose(k), 0);
        }
    }

    private static void things() {
        CHECK.says(0, "THINGS 0 .. 9, each with a SIZE (1 .. 9; 1 at first) and a PRICE (0 .. 99; 1 at first).");
        OpenPots x = new OpenPots();
        for (int t = 0; t < 10; t++) {
            CHECK.due("size at first", x.thing(t, 0, 9), 1);
            CHECK.due("greatest size", x.thing(t, 0, 1), 9);
            CHECK.due("least size", x.thing(t, 0, 9), 1);
            CHECK.due("size 0", x.thing(t, 0, 0), OUTSIDE);
            CHECK.due("size 10", x.thing(t, 0, 10), OUTSIDE);
            CHECK.due("price at first", x.thing(t, 1, 99), 1);
            CHECK.due("greatest price", x.thing(t, 1, 0), 99);
            CHECK.due("least price", x.thing(t, 1, 99), 0);
            CHECK.due("price -1", x.thing(t, 1, -1), OUTSIDE);
            CHECK.due("price 100", x.thing(t, 1, 100), OUTSIDE);
        }
        CHECK.due("thing -1", x.thing(-1, 0, 1), UNKNOWN);
        CHECK.due("thing 10", x.thing(10, 0, 1), UNKNOWN);
    }

    private static void nineWorks() {
        CHECK.says(0, "WORKS, 9 at most, numbered from 0 on, each with a set of THINGS that it NEEDS (perhaps none),"
                + " and BEFORES: WORKS that must come ahead of it.");
        OpenPots x = new OpenPots();
        for (int w = 0; w < 9; w++) {
            CHECK.due("work " + w, x.work(w % 2 == 0 ? 0 : 1023, (1 << w) - 1), w);
        }
        CHECK.due("a tenth", x.work(0, 0), FULL);
        CHECK.due("many(0)", x.many(0), 9);
        for (int w = 0; w < 9; w++) {
            CHECK.due("needs of " + w, x.ofWork(w, 0), w % 2 == 0 ? 0 : 1023);
            CHECK.due("befores of " + w, x.ofWork(w, 1), (1 << w) - 1);
        }
        text(NINE, 9);
        fault(NINE + ";w", NINE.length() + 1);
        Check.shop(x, "w;w;w;w;w;w;w;w");
        CHECK.due("a ninth behind a text", x.work(1, 0), 8);
        CHECK.due("a tenth behind a text", x.work(1, 0), FULL);
    }

    private static void rings() {
        CHECK.says(0, "No BEFORES make a ring.");
        for (int n = 2; n <= 9; n++) {
            OpenPots x = Check.shopOf(NINE);
            for (int w = 1; w < n; w++) {
                CHECK.due("chain", x.before(w - 1, w, true), 1);
            }
            CHECK.due("a ring of " + n, x.before(n - 1, 0, true), STATE);
            CHECK.due("many(2)", x.many(2), n - 1);
            CHECK.due("the chain the other way", x.before(0, n - 1, true), n == 2 ? 0 : 1);
            CHECK.due("a ring still", x.before(n - 1, 0, true), STATE);
        }
        // The same, told from its end, so that each new one is ahead of all.
        OpenPots x = Check.shopOf(NINE);
        for (int w = 8; w > 0; w--) {
            CHECK.due("chain", x.before(w, w - 1, true), 1);
        }
        CHECK.due("a ring of nine", x.before(0, 8, true), STATE);
        CHECK.due("a chain broken", x.before(4, 3, false), 1);
        CHECK.due("no ring now", x.before(0, 8, true), 1);
        CHECK.due("a ring by that", x.before(4, 3, true), STATE);
    }

    private static void items() {
        CHECK.says(0, "A SHOP by a TEXT: 1 to 12 items with ; between, WORKS first, at least one:");
        fault("", 0);
        text("w", 1);
        fault("w;", 2);
        fault(";", 0);
        fault("w;;w", 2);
        text(NINE + ";sa1;sb1;sc1", 9);
        fault(NINE + ";sa1;sb1;sc1;", NINE.length() + 12);
        fault(NINE + ";sa1;sb1;sc1;sd1", NINE.length() + 12);
        text("w;w" + TEN_SIZES, 2);
        fault("w;w;w" + TEN_SIZES, ("w;w;w" + TEN_SIZES).length() - 4);
        fault("sa1", 0);
        fault("sa1;w", 0);
        fault("a", 0);
    }

    private static void letters() {
        CHECK.says(0, "w, any number of letters of THINGS (a 0 .. j 9), none twice,");
        OpenPots x = new OpenPots();
        CHECK.due("none", Check.shop(x, "w"), 1);
        CHECK.due("its needs", x.ofWork(0, 0), 0);
        CHECK.due("all", Check.shop(x, "wabcdefghij"), 1);
        CHECK.due("its needs", x.ofWork(0, 0), 1023);
        CHECK.due("all, from the last", Check.shop(x, "wjihgfedcba"), 1);
        CHECK.due("its needs", x.ofWork(0, 0), 1023);
        for (int t = 0; t < 10; t++) {
            char letter = (char) ('a' + t);
            CHECK.due("letter " + letter, Check.shop(x, "w" + letter), 1);
            CHECK.due("its thing", x.ofWork(0, 0), 1 << t);
            fault("w" + letter + letter, 2);
            fault("wabcdefghij" + letter, 11);
            text("w" + letter + ";w" + letter, 2);
        }
        fault("wk", 1);
        fault("w`", 1);
    }

    private static void befores() {
        CHECK.says(0, "and any number of times < and a digit: a WORK of an item ahead of this one, none twice;");
        OpenPots x = new OpenPots();
        CHECK.due("all eight", Check.shop(x, NINE + "<7<6<5<4<3<2<1<0"), 9);
        CHECK.due("befores", x.ofWork(8, 1), 255);
        CHECK.due("behind letters", Check.shop(x, "wa;wb;wcd<1<0"), 3);
        CHECK.due("befores", x.ofWork(2, 1), 3);
        CHECK.due("needs", x.ofWork(2, 0), 12);
        for (int w = 0; w < 9; w++) {
            String ahead = NINE.substring(0, 2 * w);
            for (int digit = 0; digit < 10; digit++) {
                String text = ahead + "w<" + digit;
                text(text, digit < w ? w + 1 : -100 - (text.length() - 1));
            }
        }
        fault("w;w;w<0<0", 8);
        fault("w;w;w<0<1<0", 10);
        fault("w;w<0a", 5);
        fault("w;w<00", 5);
        fault("w;w<;", 4);
        fault("w;w<a", 4);
        fault("w;w<<0", 4);
    }

    private static void sizes() {
        CHECK.says(0, "behind them perhaps sizes: s, a letter, a digit (1 .. 9), no letter told twice.");
        for (int digit = 1; digit <= 9; digit++) {
            OpenPots x = new OpenPots();
            CHECK.due("digit " + digit, Check.shop(x, "w;sc" + digit), 1);
            CHECK.due("its size", x.thing(2, 0, 1), digit);
        }
        fault("w;sc0", 4);
        fault("w;sc:", 4);
        for (char letter = 'a'; letter <= 'j'; letter++) {
            text("w;s" + letter + "1", 1);
            fault("w;s" + letter + "1;s" + letter + "2", 7);
        }
        fault("w;sk1", 3);
        fault("w;s`1", 3);
        fault("w;s1", 3);
        fault("w;sab", 4);
        fault("w;sa11", 5);
        fault("w;sa1b2", 5);
        text("w" + TEN_SIZES, 1);
    }

    private static void firstFaults() {
        CHECK.says(0, "FIRST FAULT: the place (from 0 on) of the first code with which no TEXT goes on (w behind an s,"
                + " w of a tenth WORK, too;");
        fault("?", 0);
        fault("w?", 1);
        fault("w??", 1);
        fault("w;sa1;w", 6);
        fault("w;sa1;wk", 6);
        fault(NINE + ";wk", NINE.length() + 1);
        // Ten sizes are told: no TEXT goes on with s, as no letter is left for it.
        fault("w" + TEN_SIZES + ";s", 42);
        fault("w" + TEN_SIZES + ";sa1", 42);
        fault("w" + TEN_SIZES + ";w", 42);
        OpenPots x = new OpenPots();
        x.sheet(0, 2, 60);
        x.put(0, 57, 'w');
        x.put(0, 58, 'a');
        x.put(0, 59, 'a');
        CHECK.due("from 0 on, wherever its cells are", x.shop(0, 2, 57, 3), -102);
    }

    private static void letStand() {
        CHECK.says(0, "a < is let stand behind w, a letter or a digit, a ; ahead of the twelfth item, even if nothing can"
                + " come behind it);");
        fault("w<", 2);
        fault("w<0", 2);
        fault("wa<", 3);
        fault("wa<0", 3);
        fault("w;w<0<", 6);
        fault("w;w<0<0", 6);
        fault("w;w<0<1", 6);
        fault("w;w<0<;", 6);
        fault(NINE + "<0<1<2<3<4<5<6<7<", NINE.length() + 17);
        fault(NINE + "<0<1<2<3<4<5<6<7<8", NINE.length() + 17);
        // Behind eleven items that tell all sizes nothing can come.
        fault("w" + TEN_SIZES + ";", 42);
        fault("w;w" + TEN_SIZES + ";", 43);
        fault(NINE + ";sa1;sb1;", NINE.length() + 9);
        // In an item of s no < is let stand.
        fault("w;s<", 3);
        fault("w;sa<", 4);
        fault("w;sa1<", 5);
        fault("<", 0);
        fault("w;<", 2);
    }

    private static void endedTooSoon() {
        CHECK.says(0, "how many codes there are, if it just ends too soon.");
        String whole = "w;wab<0;sa1;sb2";
        int[] works = {0, 1, 0, 2, 2, 2, 0, 2, 0, 0, 0, 2, 0, 0, 0, 2};
        for (int n = 0; n <= whole.length(); n++) {
            text(whole.substring(0, n), works[n] > 0 ? works[n] : -100 - n);
        }
    }

    private static void codes() {
        CHECK.says(0, "(Codes: w 119, s 115, letters 97 .. 106, < 60, ; 59, digits 48 .. 57.)");
        for (int code = -130; code < 400; code++) {
            boolean letter = code >= 97 && code <= 106;
            goesOn("", code, code == 119);
            goesOn("w", code, letter || code == 60 || code == 59);
            goesOn("w;", code, code == 119 || code == 115);
            goesOn(NINE + "<", code, code >= 48 && code <= 55);
            goesOn(NINE + "<0", code, code == 60 || code == 59);
            goesOn("w;s", code, letter);
            goesOn("w;sa", code, code >= 49 && code <= 57);
            goesOn("w;sa1", code, code == 59);
        }
    }

    /** Whether a text that began well goes on with a code, on a SHEET of shorts. */
    private static void goesOn(String begun, int code, boolean does) {
        OpenPots x = new OpenPots();
        int n = begun.length();
        x.sheet(0, 1, n + 1);
        for (int i = 0; i < n; i++) {
            x.put(0, i, begun.charAt(i));
        }
        x.put(0, n, code);
        CHECK.due("'" + begun + "' and " + code + " is wrong there", x.shop(0, 1, 0, n + 1) == -100 - n ? 1 : 0, does ? 0 : 1);
    }

    private static void whatATextMakes() {
        CHECK.says(0, "A TEXT that is taken makes all WORKS anew, all SIZES that it does not tell 1, and all ORDERS are"
                + " gone. (PRICES stay.)");
        OpenPots x = new OpenPots();
        Check.shop(x, "wab;wbc<0;wj<0<1;sa2;sb3");
        for (int t = 0; t < 10; t++) {
            x.thing(t, 0, 9);
            x.thing(t, 1, 90 + t);
        }
        Check.order(x, 0, 0, 1, 2);
        x.build(0, 1);
        CHECK.due("orders ahead of it", x.many(1), 2);
        CHECK.due("the same text once more", Check.shop(x, "wab;wbc;wj;sa2;sb3"), 3);
        CHECK.due("no orders", x.many(1), 0);
        CHECK.due("no order 0", x.ofOrder(0, 0), UNKNOWN);
        CHECK.due("no befores", x.many(2), 0);
        int[] size = {2, 3, 1, 1, 1, 1, 1, 1, 1, 1};
        for (int t = 0; t < 10; t++) {
            CHECK.due("size of " + t, x.thing(t, 0, 9), size[t]);
            CHECK.due("price of " + t, x.thing(t, 1, 50), 90 + t);
        }
        CHECK.due("fewer", Check.shop(x, "w"), 1);
        CHECK.due("no more work 1", x.ofWork(1, 0), UNKNOWN);
        CHECK.due("needs anew", x.ofWork(0, 0), 0);
        for (int t = 0; t < 10; t++) {
            CHECK.due("size of " + t, x.thing(t, 0, 9), 1);
        }
        CHECK.due("orders begin at 0", x.build(0, 1), 0);
    }

    private static void cellsOfAText() {
        CHECK.says(2, "A SHOP by a TEXT of n cells of a SHEET from i on, taken as a row of a LANE: how many WORKS;"
                + " -100 less the FIRST FAULT.");
        String whole = "wabcdefghij;wabcdefghij;wabcdefghij;wabcdefghij;wabcdefghi<0";
        for (int lane = 0; lane < 3; lane++) {
            OpenPots x = new OpenPots();
            x.sheet(lane, lane, 60);
            for (int i = 0; i < 60; i++) {
                x.put(lane, i, whole.charAt(i));
            }
            CHECK.due("all sixty cells", x.shop(lane, lane, 0, 60), 5);
            CHECK.due("the last of them", x.ofWork(4, 1), 1);
            CHECK.due("all but the last", x.shop(lane, lane, 0, 59), -159);
            CHECK.due("all but the first", x.shop(lane, lane, 1, 59), -100);
            CHECK.due("one cell", x.shop(lane, lane, 48, 1), 1);
            CHECK.due("the last work", x.shop(lane, lane, 48, 12), -111);
            CHECK.due("no cell", x.shop(lane, lane, 60, 0), -100);
        }
        OpenPots x = new OpenPots();
        x.sheet(0, 2, 1);
        x.put(0, 0, 119 + (1 << 16));
        CHECK.due("an int is no code by its end alone", x.shop(0, 2, 0, 1), -100);
        x.sheet(0, 0, 1);
        x.put(0, 0, 119 + 256);
        CHECK.due("but a byte is cut", x.shop(0, 0, 0, 1), 1);
    }

    private static void refusedShops() {
        OpenPots x = new OpenPots();
        x.sheet(0, 0, 2);
        x.put(0, 0, 'w');
        x.sheet(3, 2, 1);
        x.put(3, 0, 'w');
        CHECK.says(2, "UNKNOWN;");
        CHECK.due("sheet -1", x.shop(-1, 0, 0, 1), UNKNOWN);
        CHECK.due("sheet 4", x.shop(4, 0, 0, 1), UNKNOWN);
        CHECK.due("sheet 0", x.shop(0, 0, 0, 1), 1);
        CHECK.due("sheet 3", x.shop(3, 2, 0, 1), 1);
        CHECK.says(2, "OUTSIDE: lane;");
        CHECK.due("lane -1", x.shop(0, -1, 0, 1), OUTSIDE);
        CHECK.due("lane 3", x.shop(0, 3, 0, 1), OUTSIDE);
        CHECK.says(2, "FAULTS CAST (nothing is no CAST), NULL,");
        for (int lane = 0; lane < 3; lane++) {
            CHECK.due("bytes as lane " + lane, x.shop(0, lane, 0, 1), lane == 0 ? 1 : -12);
            CHECK.due("ints as lane " + lane, x.shop(3, lane, 0, 1), lane == 2 ? 1 : -12);
            CHECK.due("nothing as lane " + lane, x.shop(1, lane, 0, 1), -11);
        }
        x.lose(0);
        CHECK.due("lost", x.shop(0, 0, 0, 1), -11);
        CHECK.says(2, "SIZE: n is below 0,");
        CHECK.due("-1", x.shop(3, 2, 0, -1), -14);
        CHECK.due("far below", x.shop(3, 2, 0, Integer.MIN_VALUE), -14);
        CHECK.due("0 is not", x.shop(3, 2, 0, 0), -100);
        CHECK.says(2, "INDEX: not all cells are there;");
        CHECK.due("one too many", x.shop(3, 2, 0, 2), -13);
        CHECK.due("one too far", x.shop(3, 2, 1, 1), -13);
        CHECK.due("ahead of them", x.shop(3, 2, -1, 1), -13);
        CHECK.due("ahead of them, to them", x.shop(3, 2, -1, 2), -13);
        CHECK.due("so many that it wraps", x.shop(3, 2, 1, Integer.MAX_VALUE), -13);
        CHECK.due("so far that it wraps", x.shop(3, 2, Integer.MAX_VALUE, 1), -13);
        CHECK.due("just all", x.shop(3, 2, 0, 1), 1);
        CHECK.says(2, "-100 less it.");
        x.put(3, 0, 's');
        CHECK.due("wrong at 0", x.shop(3, 2, 0, 1), -100);
        CHECK.due("no fault of the machine", x.fault(), 0);
        CHECK.due("works stay", x.many(0), 1);
    }

    private static void moreWorks() {
        OpenPots x = Check.shopOf("wab;wc<0;sa5");
        Check.order(x, 1, 0, 1);
        CHECK.says(3, "A WORK more (a card that is late): its number; all ORDERS are gone.");
        CHECK.due("orders ahead of it", x.many(1), 1);
        CHECK.due("its number", x.work(5, 2), 2);
        CHECK.due("orders are gone", x.many(1), 0);
        CHECK.due("no order 0", x.ofOrder(0, 1), UNKNOWN);
        CHECK.due("works stay", x.ofWork(0, 0), 3);
        CHECK.due("befores stay", x.ofWork(1, 1), 1);
        CHECK.due("sizes stay", x.thing(0, 0, 5), 5);
        CHECK.says(3, "OUTSIDE: needs, befores (a bit of none);");
        int[] needs = {-1, 1024, 2048, 1025, Integer.MIN_VALUE, Integer.MAX_VALUE};
        for (int set : needs) {
            CHECK.due("needs " + set, x.work(set, 0), OUTSIDE);
        }
        int[] befores = {-1, 8, 9, 16, 512, Integer.MIN_VALUE, Integer.MAX_VALUE};
        for (int set : befores) {
            CHECK.due("befores " + set, x.work(0, set), OUTSIDE);
        }
        CHECK.due("the greatest sets", x.work(1023, 7), 3);
        CHECK.due("the least sets", x.work(0, 0), 4);
        CHECK.due("a first work has no befores", new OpenPots().work(0, 1), OUTSIDE);
        CHECK.says(3, "FULL.");
        for (int w = 5; w < 9; w++) {
            CHECK.due("work " + w, x.work(0, 0), w);
        }
        CHECK.due("a tenth", x.work(0, 0), FULL);
        CHECK.due("a tenth behind all", x.work(1023, 511), FULL);
        CHECK.due("many(0)", x.many(0), 9);
    }

    private static void ofWorks() {
        OpenPots x = Check.shopOf("wabj;w<0");
        CHECK.says(4, "Of a WORK: 0 what it NEEDS, 1 its BEFORES, as sets.");
        CHECK.due("needs", x.ofWork(0, 0), 515);
        CHECK.due("no befores", x.ofWork(0, 1), 0);
        CHECK.due("no needs", x.ofWork(1, 0), 0);
        CHECK.due("befores", x.ofWork(1, 1), 1);
        CHECK.says(4, "UNKNOWN;");
        int[] none = {-1, 2, 9, Integer.MIN_VALUE, Integer.MAX_VALUE};
        for (int w : none) {
            CHECK.due("work " + w, x.ofWork(w, 0), UNKNOWN);
        }
        CHECK.says(4, "OUTSIDE.");
        int[] outside = {-1, 2, Integer.MIN_VALUE, Integer.MAX_VALUE};
        for (int what : outside) {
            CHECK.due("what " + what, x.ofWork(0, what), OUTSIDE);
        }
    }

    private static void beforeOrNot() {
        OpenPots x = Check.shopOf("wa;wb;wc");
        CHECK.says(5, "A WORK must come ahead of another one (it is of the other's BEFORES), or need not: 1; 0: it was so.");
        CHECK.due("need not, as it was", x.before(2, 0, false), 0);
        CHECK.due("must", x.before(2, 0, true), 1);
        CHECK.due("of the other's", x.ofWork(0, 1), 4);
        CHECK.due("not of its own", x.ofWork(2, 1), 0);
        CHECK.due("must, as it was", x.before(2, 0, true), 0);
        CHECK.due("the other way it need not", x.before(0, 2, false), 0);
        CHECK.due("need not", x.before(2, 0, false), 1);
        CHECK.due("no more", x.ofWork(0, 1), 0);
        CHECK.says(5, "UNKNOWN;");
        CHECK.due("of -1", x.before(-1, 0, true), UNKNOWN);
        CHECK.due("to -1", x.before(0, -1, true), UNKNOWN);
        CHECK.due("of 3", x.before(3, 0, false), UNKNOWN);
        CHECK.due("to 3", x.before(0, 3, false), UNKNOWN);
        CHECK.says(5, "OUTSIDE: both are one;");
        CHECK.due("must", x.before(0, 0, true), OUTSIDE);
        CHECK.due("need not", x.before(2, 2, false), OUTSIDE);
        CHECK.says(5, "STATE: that makes a ring.");
        x.before(0, 1, true);
        CHECK.due("of two", x.before(1, 0, true), STATE);
        x.before(1, 2, true);
        CHECK.due("of three", x.before(2, 0, true), STATE);
        CHECK.due("what is no ring", x.before(0, 2, true), 1);
        x.before(1, 2, false);
        CHECK.due("a ring by that", x.before(2, 0, true), STATE);
        CHECK.due("none any more", x.before(2, 1, true), 1);
        CHECK.says(5, "(ORDERS stay, of whatever kind.)");
        Check.shop(x, "wa;wb;wc");
        for (int kind = 0; kind < 3; kind++) {
            Check.order(x, kind, 0, 1, 2);
        }
        CHECK.due("all are broken by it", x.before(2, 0, true), 1);
        for (int kind = 0; kind < 3; kind++) {
            CHECK.due("kind", x.ofOrder(kind, 0), kind);
            CHECK.due("not LAWFUL now", x.ofOrder(kind, 3), 0);
            CHECK.due("row", Check.row(x, kind), 12);
        }
        CHECK.due("and healed", x.before(2, 0, false), 1);
        CHECK.due("many(1)", x.many(1), 3);
        CHECK.due("LAWFUL again", x.ofOrder(2, 3), 1);
    }

    private static void changingThings() {
        OpenPots x = Check.shopOf("wab");
        x.build(0, 1);
        CHECK.says(6, "SIZE (what 0), PRICE (1) of a THING becomes v: what it was.");
        CHECK.due("size", x.thing(0, 0, 7), 1);
        CHECK.due("price", x.thing(0, 1, 70), 1);
        CHECK.due("size again", x.thing(0, 0, 7), 7);
        CHECK.due("price again", x.thing(0, 1, 70), 70);
        CHECK.due("another one has its own", x.thing(1, 0, 1), 1);
        CHECK.due("another one has its own", x.thing(1, 1, 1), 1);
        CHECK.due("orders stay", x.many(1), 1);
        CHECK.due("and get wider", x.ofOrder(0, 1), 8);
        CHECK.says(6, "UNKNOWN;");
        int[] none = {-1, 10, Integer.MIN_VALUE, Integer.MAX_VALUE};
        for (int t : none) {
            CHECK.due("size of " + t, x.thing(t, 0, 1), UNKNOWN);
            CHECK.due("price of " + t, x.thing(t, 1, 1), UNKNOWN);
        }
        CHECK.says(6, "OUTSIDE.");
        int[] sizes = {Integer.MIN_VALUE, -1, 0, 10, 99, Integer.MAX_VALUE};
        for (int v : sizes) {
            CHECK.due("size " + v, x.thing(9, 0, v), OUTSIDE);
        }
        int[] prices = {Integer.MIN_VALUE, -1, 100, Integer.MAX_VALUE};
        for (int v : prices) {
            CHECK.due("price " + v, x.thing(9, 1, v), OUTSIDE);
        }
        CHECK.due("what -1", x.thing(9, -1, 1), OUTSIDE);
        CHECK.due("what 2", x.thing(9, 2, 1), OUTSIDE);
        CHECK.due("as it was", x.thing(9, 0, 1), 1);
        CHECK.due("as it was", x.thing(9, 1, 1), 1);
    }
}
