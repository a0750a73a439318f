/**
 * Works that need things, and the orders of them in which the fewest things lie open at once.
 *
 * All rows are made with the object and used again, so that no call makes anything.
 */
public final class OpenPots {
    public static final int UNKNOWN = -1, OUTSIDE = -2, STATE = -3, FULL = -4, NONE = -9;
    public static final long LOST = Long.MIN_VALUE;

    private static final int NULL = 1, CAST = 2, INDEX = 3, SIZE = 4;
    private static final int WORKS = 9, THINGS = 10, ORDERS = 8, SHEETS = 4, CELLS = 60, LANES = 3;
    private static final int WORK_SETS = 1 << WORKS, THING_SETS = 1 << THINGS;
    private static final int ROW = 0, BEFORE = 1, AGAIN = 2;
    /** Above every sum of widths and every sum of prices, and far from wrapping when one is added. */
    private static final int FAR = 1_000_000;

    private final Sheets sheets = new Sheets();
    private final Text text = new Text();
    private final Works works = new Works();
    private final Orders orders = new Orders();
    private final Gauge gauge = new Gauge(works);
    private final Search whole = new Search(works);
    private final Search aside = new Search(works);
    private final Bounds bounds = new Bounds(works);
    private final Mover mover = new Mover(works, gauge);
    private final Room rooms = new Room(works, gauge);
    private final Tables tables = new Tables(works, aside);
    private final int[] spare = new int[WORKS];
    private int traced;
    private int latestFault;

    public OpenPots() {
    }

    // ---- 1 the shop

    public int shop(int sheet, int lane, int i, int n) {
        latestFault = 0;
        if (!isSheet(sheet)) {
            return UNKNOWN;
        }
        if (!isLane(lane)) {
            return OUTSIDE;
        }
        int met = sheets.cellsFault(sheet, lane, i, n);
        if (met != 0) {
            return faulted(met);
        }
        int wrongAt = text.firstFault(sheets.cells[sheet], i, n);
        if (wrongAt >= 0) {
            return -100 - wrongAt;
        }
        works.takeOver(text);
        orders.count = 0;
        return works.count;
    }

    public int work(int needs, int befores) {
        if (needs < 0 || needs >= THING_SETS || befores < 0 || befores > works.all()) {
            return OUTSIDE;
        }
        if (works.count >= WORKS) {
            return FULL;
        }
        works.add(needs, befores);
        orders.count = 0;
        return works.count - 1;
    }

    public int ofWork(int w, int what) {
        if (!works.has(w)) {
            return UNKNOWN;
        }
        if (what == 0) {
            return works.needs[w];
        }
        return what == 1 ? works.befores[w] : OUTSIDE;
    }

    public int before(int w, int other, boolean is) {
        if (!works.has(w) || !works.has(other)) {
            return UNKNOWN;
        }
        if (w == other) {
            return OUTSIDE;
        }
        if (works.isBefore(w, other) == is) {
            return 0;
        }
        if (is && works.comesAhead(other, w)) {
            return STATE;
        }
        works.turnBefore(w, other);
        return 1;
    }

    public int thing(int t, int what, int v) {
        if (t < 0 || t >= THINGS) {
            return UNKNOWN;
        }
        if (what == 0 && v >= 1 && v <= 9) {
            return works.changeSize(t, v);
        }
        if (what == 1 && v >= 0 && v <= 99) {
            return works.prices.change(t, v);
        }
        return OUTSIDE;
    }

    // ---- 2 orders

    public int order(int kind, int sheet, int lane, int i, int n) {
        latestFault = 0;
        if (!isSheet(sheet)) {
            return UNKNOWN;
        }
        if (!isKind(kind) || !isLane(lane)) {
            return OUTSIDE;
        }
        int met = sheets.cellsFault(sheet, lane, i, n);
        if (met != 0) {
            return faulted(met);
        }
        if (n == 0 || n != works.count) {
            return OUTSIDE;
        }
        System.arraycopy(sheets.cells[sheet], i, spare, 0, n);
        int refused = refusalOfSpare(kind);
        return refused != 0 ? refused : orders.add(kind, spare);
    }

    private int refusalOfSpare(int kind) {
        int seen = 0;
        boolean twice = false;
        for (int k = 0; k < works.count; k++) {
            if (!works.has(spare[k])) {
                return UNKNOWN;
            }
            int bit = 1 << spare[k];
            twice = twice || (seen & bit) != 0;
            seen |= bit;
        }
        if (twice) {
            return STATE;
        }
        gauge.measure(spare);
        if (kind != ROW && !gauge.lawful) {
            return STATE;
        }
        return orders.isFull() ? FULL : 0;
    }

    public int ofOrder(int o, int what) {
        if (!orders.has(o)) {
            return UNKNOWN;
        }
        gauge.measure(orders.rows[o]);
        switch (what) {
            case 0:
                return orders.kinds[o];
            case 1:
                return gauge.most;
            case 2:
                return gauge.total;
            case 3:
                return gauge.lawful ? 1 : 0;
            default:
                return atPlace(o, what);
        }
    }

    private int atPlace(int o, int what) {
        int group = what / 10;
        int place = what % 10;
        if (place < 0 || place >= works.count) {
            return OUTSIDE;
        }
        switch (group) {
            case 1:
                return orders.rows[o][place];
            case 2:
                return gauge.open[place];
            case 3:
                return works.sizes.sum(gauge.open[place]);
            default:
                return OUTSIDE;
        }
    }

    public int best(int what) {
        if (works.count == 0) {
            return STATE;
        }
        whole.refresh();
        if (what == 0) {
            return whole.leastFrom(0);
        }
        if (what == 1) {
            return whole.longFrom(0);
        }
        if (what < 10 || what - 10 >= works.count) {
            return OUTSIDE;
        }
        return whole.workAt(what - 10);
    }

    public int from(int o, int k, int what) {
        if (!orders.has(o)) {
            return UNKNOWN;
        }
        if (k < 0 || k > works.count || what < 0 || what > 2) {
            return OUTSIDE;
        }
        int done = orders.setOfFirst(o, k);
        if (!works.isClosed(done)) {
            return STATE;
        }
        whole.refresh();
        if (what == 0) {
            return whole.leastFrom(done);
        }
        return what == 1 ? whole.longFrom(done) : whole.nextFrom(done);
    }

    public int better(int o, int other) {
        if (!orders.has(o) || !orders.has(other)) {
            return UNKNOWN;
        }
        gauge.measure(orders.rows[other]);
        int most = gauge.most;
        int total = gauge.total;
        gauge.measure(orders.rows[o]);
        return gauge.beats(most, total, orders.rows[o], orders.rows[other]) ? 1 : 0;
    }

    // ---- 3 bounds

    public int cross(int k) {
        if (k < 0 || k > works.count) {
            return OUTSIDE;
        }
        bounds.refresh();
        return bounds.crossings[k];
    }

    public int knot(int what) {
        if (what < 0 || what > 1) {
            return OUTSIDE;
        }
        bounds.refresh();
        return what == 0 ? bounds.knotted : bounds.knottedSize;
    }

    public int bound() {
        bounds.refresh();
        return Math.max(bounds.greatestCross(), Math.max(works.greatestNeed(), bounds.knottedSize));
    }

    public int part(int w) {
        if (w == -1) {
            return bounds.countParts();
        }
        return works.has(w) ? bounds.leastOfPart(w) : UNKNOWN;
    }

    public int within() {
        return bounds.allWithin();
    }

    // ---- 4 rules, moves

    public int build(int rule, int seen) {
        if (rule < 0 || rule > 2 || seen < 1 || seen > 9) {
            return OUTSIDE;
        }
        if (works.count == 0) {
            return STATE;
        }
        if (orders.isFull()) {
            return FULL;
        }
        int done = 0;
        for (int place = 0; place < works.count; place++) {
            spare[place] = works.choose(rule, seen, done);
            done |= 1 << spare[place];
        }
        return orders.add(BEFORE, spare);
    }

    public int move(int o) {
        if (!orders.has(o)) {
            return UNKNOWN;
        }
        if (!isLawful(o)) {
            return STATE;
        }
        if (orders.isFull()) {
            return FULL;
        }
        mover.improve(orders.rows[o]);
        return orders.add(BEFORE, mover.row);
    }

    public int moves(int o) {
        if (!orders.has(o)) {
            return UNKNOWN;
        }
        return isLawful(o) ? mover.improve(orders.rows[o]) : STATE;
    }

    private boolean isLawful(int o) {
        gauge.measure(orders.rows[o]);
        return gauge.lawful;
    }

    // ---- 5 room, tables, what makes it wide

    public int cheapest(int o, int r) {
        if (!orders.has(o)) {
            return UNKNOWN;
        }
        if (r < 0 || r > 99) {
            return OUTSIDE;
        }
        gauge.measure(orders.rows[o]);
        return r < works.greatestNeed() ? NONE : rooms.leastPrice(orders.rows[o], r);
    }

    public int room(int o, int p) {
        if (!orders.has(o)) {
            return UNKNOWN;
        }
        if (p < 0 || p > 9999) {
            return OUTSIDE;
        }
        gauge.measure(orders.rows[o]);
        return rooms.leastRoom(orders.rows[o], p);
    }

    public int two(int what) {
        if (works.count == 0) {
            return STATE;
        }
        if (what < 0 || what > 3) {
            return OUTSIDE;
        }
        tables.refresh();
        switch (what) {
            case 0:
                return Math.max(tables.firstMost, tables.secondMost);
            case 1:
                return tables.first;
            case 2:
                return tables.firstMost;
            default:
                return tables.secondMost;
        }
    }

    public int without(int w) {
        return works.has(w) ? mostWithout(w, FAR) : UNKNOWN;
    }

    private int mostWithout(int w, int limit) {
        return aside.leastMost(works.all() & ~(1 << w), limit);
    }

    public int why(int w, int other) {
        if (!works.has(w) || !works.has(other)) {
            return UNKNOWN;
        }
        return works.isBefore(w, other) ? aside.leastMostUnbound(w, other) : STATE;
    }

    public int widest() {
        int found = NONE;
        int least = FAR;
        for (int w = 0; w < works.count; w++) {
            int most = mostWithout(w, least);
            if (most < least) {
                least = most;
                found = w;
            }
        }
        return found;
    }

    // ---- 6 sheets, parts

    public int sheet(int k, int lane, int n) {
        latestFault = 0;
        if (!isSheet(k)) {
            return UNKNOWN;
        }
        if (!isLane(lane) || n > CELLS) {
            return OUTSIDE;
        }
        if (n < 0) {
            return faulted(SIZE);
        }
        sheets.renew(k, lane, n);
        return 1;
    }

    public int lose(int k) {
        if (!isSheet(k)) {
            return UNKNOWN;
        }
        return sheets.drop(k) ? 1 : 0;
    }

    public int put(int k, int i, int v) {
        latestFault = 0;
        if (!isSheet(k)) {
            return UNKNOWN;
        }
        int met = sheets.cellFault(k, sheets.lanes[k], i);
        if (met != 0) {
            return faulted(met);
        }
        sheets.write(k, i, v);
        return 1;
    }

    public long cell(int k, int i, int lane) {
        latestFault = 0;
        if (!isSheet(k) || !isLane(lane)) {
            return LOST;
        }
        latestFault = sheets.cellFault(k, lane, i);
        return latestFault != 0 ? LOST : sheets.cells[k][i];
    }

    public int tell(int o) {
        if (!orders.has(o)) {
            return UNKNOWN;
        }
        switch (orders.kinds[o]) {
            case AGAIN:
                return tellAgain(o);
            case BEFORE:
                return tellBefore(o);
            default:
                return tellRow(o);
        }
    }

    private int tellRow(int o) {
        leave(1);
        gauge.measure(orders.rows[o]);
        return gauge.most;
    }

    private int tellBefore(int o) {
        leave(2);
        return tellRow(o) + 1000;
    }

    private int tellAgain(int o) {
        leave(3);
        int asBefore = tellBefore(o);
        return asBefore + tellRow(o);
    }

    public int show(int o) {
        if (!orders.has(o)) {
            return UNKNOWN;
        }
        boolean own = orders.kinds[o] == AGAIN;
        leave(own ? 5 : 4);
        return own ? 80 : o;
    }

    public int as(int o, int kind) {
        latestFault = 0;
        if (!orders.has(o)) {
            return UNKNOWN;
        }
        if (!isKind(kind)) {
            return OUTSIDE;
        }
        return orders.kinds[o] < kind ? faulted(CAST) : 1;
    }

    public int trace() {
        return traced;
    }

    public int fault() {
        return latestFault;
    }

    public int many(int what) {
        switch (what) {
            case 0:
                return works.count;
            case 1:
                return orders.count;
            case 2:
                return works.countBefores();
            case 3:
                return Integer.bitCount(works.neededBy(works.all()));
            default:
                return OUTSIDE;
        }
    }

    private void leave(int body) {
        traced = traced * 31 + body;
    }

    private int faulted(int met) {
        latestFault = met;
        return -10 - met;
    }

    private static boolean isSheet(int k) {
        return k >= 0 && k < SHEETS;
    }

    private static boolean isLane(int lane) {
        return lane >= 0 && lane < LANES;
    }

    private static boolean isKind(int kind) {
        return kind >= ROW && kind <= AGAIN;
    }

    /** SHEETS: every row is held as ints that were cut to its LANE as they came. */
    private static final class Sheets {
        private static final int NOTHING = -1;

        final int[][] cells = new int[SHEETS][CELLS];
        final int[] lanes = {NOTHING, NOTHING, NOTHING, NOTHING};
        private final int[] lengths = new int[SHEETS];

        void renew(int k, int lane, int n) {
            lanes[k] = lane;
            lengths[k] = n;
            for (int i = 0; i < n; i++) {
                cells[k][i] = 0;
            }
        }

        boolean drop(int k) {
            boolean had = lanes[k] != NOTHING;
            lanes[k] = NOTHING;
            lengths[k] = 0;
            return had;
        }

        void write(int k, int i, int v) {
            int cut = v;
            if (lanes[k] == 0) {
                cut = (byte) v;
            } else if (lanes[k] == 1) {
                cut = (short) v;
            }
            cells[k][i] = cut;
        }

        int cellFault(int k, int lane, int i) {
            int met = rowFault(k, lane);
            if (met != 0) {
                return met;
            }
            return i < 0 || i >= lengths[k] ? INDEX : 0;
        }

        int cellsFault(int k, int lane, int i, int n) {
            int met = rowFault(k, lane);
            if (met != 0) {
                return met;
            }
            if (n < 0) {
                return SIZE;
            }
            // Not i + n: that may wrap.
            return i < 0 || i > lengths[k] || n > lengths[k] - i ? INDEX : 0;
        }

        private int rowFault(int k, int lane) {
            if (lanes[k] == NOTHING) {
                return NULL;
            }
            return lanes[k] == lane ? 0 : CAST;
        }
    }

    /** Reads a TEXT code by code; what it tells stays here till a shop takes it over. */
    private static final class Text {
        private static final int WRONG = 0, ITEM = 1, NEED = 2, AHEAD = 3, AHEADS = 4, SIZED = 5, SIZE_OF = 6, END = 7;
        private static final int ITEMS = 12;

        final int[] needs = new int[WORKS];
        final int[] befores = new int[WORKS];
        final int[] sizes = new int[THINGS];
        int count;
        private int items;
        private int told;
        private int toldLast;

        /** The place of the first fault, or -1. */
        int firstFault(int[] codes, int start, int length) {
            forget();
            int state = ITEM;
            for (int k = 0; k < length; k++) {
                state = step(state, codes[start + k]);
                if (state == WRONG) {
                    return k;
                }
            }
            return state == NEED || state == AHEADS || state == END ? -1 : length;
        }

        private void forget() {
            count = 0;
            items = 0;
            told = 0;
            for (int t = 0; t < THINGS; t++) {
                sizes[t] = 1;
            }
        }

        private int step(int state, int code) {
            switch (state) {
                case ITEM:
                    return beginItem(code);
                case NEED:
                    return code >= 'a' && code <= 'j' ? takeNeed(code - 'a') : goOnInWork(code);
                case AHEAD:
                    return code >= '0' && code <= '9' ? takeBefore(code - '0') : WRONG;
                case AHEADS:
                    return goOnInWork(code);
                case SIZED:
                    return code >= 'a' && code <= 'j' ? takeSized(code - 'a') : WRONG;
                case SIZE_OF:
                    return code >= '1' && code <= '9' ? takeSize(code - '0') : WRONG;
                default:
                    return endItem(code);
            }
        }

        private int beginItem(int code) {
            items++;
            if (code == 'w' && told == 0 && count < WORKS) {
                needs[count] = 0;
                befores[count] = 0;
                count++;
                return NEED;
            }
            // Once every THING has its size no TEXT goes on with an s.
            return code == 's' && count > 0 && told != THING_SETS - 1 ? SIZED : WRONG;
        }

        private int takeNeed(int t) {
            int bit = 1 << t;
            if ((needs[count - 1] & bit) != 0) {
                return WRONG;
            }
            needs[count - 1] |= bit;
            return NEED;
        }

        private int goOnInWork(int code) {
            return code == '<' ? AHEAD : endItem(code);
        }

        private int endItem(int code) {
            return code == ';' && items < ITEMS ? ITEM : WRONG;
        }

        private int takeBefore(int w) {
            int bit = 1 << w;
            if (w >= count - 1 || (befores[count - 1] & bit) != 0) {
                return WRONG;
            }
            befores[count - 1] |= bit;
            return AHEADS;
        }

        private int takeSized(int t) {
            int bit = 1 << t;
            if ((told & bit) != 0) {
                return WRONG;
            }
            told |= bit;
            toldLast = t;
            return SIZE_OF;
        }

        private int takeSize(int v) {
            sizes[toldLast] = v;
            return END;
        }
    }

    /** A number for each THING; sums over sets by two halves of five THINGS, so that a change is cheap. */
    private static final class Scale {
        private static final int HALF = 5, HALF_SETS = 1 << HALF;

        private final int[] low = new int[HALF_SETS];
        private final int[] high = new int[HALF_SETS];

        Scale() {
            for (int s = 0; s < HALF_SETS; s++) {
                low[s] = Integer.bitCount(s);
                high[s] = low[s];
            }
        }

        int sum(int set) {
            return low[set & (HALF_SETS - 1)] + high[(set >> HALF) & (HALF_SETS - 1)];
        }

        /** What it was. */
        int change(int t, int v) {
            int was = sum(1 << t);
            int[] half = t < HALF ? low : high;
            int bit = 1 << (t % HALF);
            for (int s = 0; s < HALF_SETS; s++) {
                if ((s & bit) != 0) {
                    half[s] += v - was;
                }
            }
            return was;
        }
    }

    /** WORKS and THINGS. */
    private static final class Works {
        final int[] needs = new int[WORKS];
        final int[] befores = new int[WORKS];
        final Scale sizes = new Scale();
        final Scale prices = new Scale();
        int count;
        /** Goes up with all that may change a MOST, so that what was found before is known to be old. */
        int version;

        boolean has(int w) {
            return w >= 0 && w < count;
        }

        int all() {
            return (1 << count) - 1;
        }

        void takeOver(Text text) {
            count = text.count;
            for (int w = 0; w < count; w++) {
                needs[w] = text.needs[w];
                befores[w] = text.befores[w];
            }
            for (int t = 0; t < THINGS; t++) {
                sizes.change(t, text.sizes[t]);
            }
            version++;
        }

        void add(int needed, int ahead) {
            needs[count] = needed;
            befores[count] = ahead;
            count++;
            version++;
        }

        int changeSize(int t, int v) {
            version++;
            return sizes.change(t, v);
        }

        boolean isBefore(int w, int other) {
            return (befores[other] >> w & 1) != 0;
        }

        void turnBefore(int w, int other) {
            befores[other] ^= 1 << w;
            version++;
        }

        /** Whether a WORK must come ahead of another one, be it by others between them. */
        boolean comesAhead(int w, int other) {
            int ahead = befores[other];
            for (int turn = 0; turn < count; turn++) {
                for (int v = 0; v < count; v++) {
                    if ((ahead >> v & 1) != 0) {
                        ahead |= befores[v];
                    }
                }
            }
            return (ahead >> w & 1) != 0;
        }

        boolean isClosed(int set) {
            for (int w = 0; w < count; w++) {
                if ((set >> w & 1) != 0 && (befores[w] & ~set) != 0) {
                    return false;
                }
            }
            return true;
        }

        int neededBy(int set) {
            int things = 0;
            for (int w = 0; w < count; w++) {
                if ((set >> w & 1) != 0) {
                    things |= needs[w];
                }
            }
            return things;
        }

        int greatestNeed() {
            int greatest = 0;
            for (int w = 0; w < count; w++) {
                greatest = Math.max(greatest, sizes.sum(needs[w]));
            }
            return greatest;
        }

        int countBefores() {
            int found = 0;
            for (int w = 0; w < count; w++) {
                found += Integer.bitCount(befores[w]);
            }
            return found;
        }

        /** The next WORK by a RULE; as there is no ring, some WORK can always come. */
        int choose(int rule, int seen, int done) {
            int chosen = 0;
            int least = FAR;
            int left = seen;
            for (int w = 0; w < count && left > 0; w++) {
                if ((done >> w & 1) == 0 && (befores[w] & ~done) == 0) {
                    left--;
                    int score = score(rule, w, done);
                    if (score < least) {
                        least = score;
                        chosen = w;
                    }
                }
            }
            return chosen;
        }

        private int score(int rule, int w, int done) {
            int behind = all() & ~done & ~(1 << w);
            int closes = sizes.sum(needs[w] & ~neededBy(behind));
            int opens = sizes.sum(needs[w] & ~neededBy(done));
            if (rule == 0) {
                return -closes;
            }
            return rule == 1 ? opens : opens - closes;
        }
    }

    /** ORDERS as they came. */
    private static final class Orders {
        final int[][] rows = new int[ORDERS][WORKS];
        final int[] kinds = new int[ORDERS];
        int count;

        boolean has(int o) {
            return o >= 0 && o < count;
        }

        boolean isFull() {
            return count >= ORDERS;
        }

        int add(int kind, int[] row) {
            System.arraycopy(row, 0, rows[count], 0, WORKS);
            kinds[count] = kind;
            count++;
            return count - 1;
        }

        int setOfFirst(int o, int k) {
            int set = 0;
            for (int place = 0; place < k; place++) {
                set |= 1 << rows[o][place];
            }
            return set;
        }
    }

    /** Measures a row of all WORKS; what it found stays till the next row. */
    private static final class Gauge {
        final int[] open = new int[WORKS];
        int most;
        int total;
        boolean lawful;
        private final Works works;

        Gauge(Works works) {
            this.works = works;
        }

        void measure(int[] row) {
            fillNeededFromHereOn(row);
            most = 0;
            total = 0;
            lawful = true;
            int done = 0;
            int opened = 0;
            for (int k = 0; k < works.count; k++) {
                int w = row[k];
                lawful = lawful && (works.befores[w] & ~done) == 0;
                done |= 1 << w;
                opened |= works.needs[w];
                open[k] &= opened;
                int wide = works.sizes.sum(open[k]);
                most = Math.max(most, wide);
                total += wide;
            }
        }

        private void fillNeededFromHereOn(int[] row) {
            int needed = 0;
            for (int k = works.count - 1; k >= 0; k--) {
                needed |= works.needs[row[k]];
                open[k] = needed;
            }
        }

        /** Whether the row measured last is BETTER than another one of that MOST and LONG. */
        boolean beats(int otherMost, int otherTotal, int[] row, int[] other) {
            if (most != otherMost) {
                return most < otherMost;
            }
            if (total != otherTotal) {
                return total < otherTotal;
            }
            for (int k = 0; k < works.count; k++) {
                if (row[k] != other[k]) {
                    return row[k] < other[k];
                }
            }
            return false;
        }
    }

    /**
     * The best order of some WORKS, found over sets of those that are done. MOST comes first by itself: only
     * when the least one is known can LONG be summed, over the steps that are no wider.
     */
    private static final class Search {
        private final Works works;
        private final int[] needs = new int[WORKS];
        private final int[] befores = new int[WORKS];
        private final int[] needed = new int[WORK_SETS];
        private final int[] least = new int[WORK_SETS];
        private final int[] longs = new int[WORK_SETS];
        private int count;
        private int full;
        private int longsCap;
        private int version = -1;

        Search(Works works) {
            this.works = works;
        }

        /** Of all WORKS, as they are now. */
        void refresh() {
            if (version != works.version) {
                leastMost(works.all(), FAR);
                version = works.version;
            }
        }

        /** The limit itself, where no order of these WORKS stays below it. */
        int leastMost(int set, int limit) {
            load(set);
            fillLeast(limit);
            return least[0];
        }

        int leastMostUnbound(int w, int other) {
            load(works.all());
            befores[other] &= ~(1 << w);
            fillLeast(FAR);
            return least[0];
        }

        int leastFrom(int done) {
            return least[done];
        }

        int longFrom(int done) {
            fillLongs(least[done]);
            return longs[done];
        }

        int nextFrom(int done) {
            fillLongs(least[done]);
            return nextBehind(done);
        }

        int workAt(int place) {
            fillLongs(least[0]);
            int done = 0;
            for (int k = 0; k < place; k++) {
                int next = nextBehind(done);
                if (next == NONE) {
                    return NONE;
                }
                done |= 1 << next;
            }
            return nextBehind(done);
        }

        /** WORKS of the set get numbers from 0 on here, in their order. */
        private void load(int set) {
            count = 0;
            for (int w = 0; w < works.count; w++) {
                if ((set >> w & 1) != 0) {
                    needs[count] = works.needs[w];
                    befores[count] = squeeze(works.befores[w], set);
                    count++;
                }
            }
            full = (1 << count) - 1;
            longsCap = -1;
            needed[0] = 0;
            for (int w = 0; w < count; w++) {
                int bit = 1 << w;
                for (int s = 0; s < bit; s++) {
                    needed[s | bit] = needed[s] | needs[w];
                }
            }
        }

        private int squeeze(int bits, int set) {
            int squeezed = 0;
            int to = 0;
            for (int w = 0; w < works.count; w++) {
                if ((set >> w & 1) != 0) {
                    squeezed |= (bits >> w & 1) << to;
                    to++;
                }
            }
            return squeezed;
        }

        private boolean mayCome(int w, int done) {
            return (done >> w & 1) == 0 && (befores[w] & ~done) == 0;
        }

        private int wide(int w, int done) {
            return works.sizes.sum(needed[done | 1 << w] & needed[full & ~done]);
        }

        private void fillLeast(int limit) {
            least[full] = 0;
            for (int done = full - 1; done >= 0; done--) {
                int found = limit;
                for (int w = 0; w < count; w++) {
                    if (mayCome(w, done) && least[done | 1 << w] < found) {
                        found = Math.min(found, Math.max(least[done | 1 << w], wide(w, done)));
                    }
                }
                least[done] = found;
            }
        }

        private void fillLongs(int cap) {
            if (longsCap == cap) {
                return;
            }
            longsCap = cap;
            longs[full] = 0;
            for (int done = full - 1; done >= 0; done--) {
                longs[done] = leastLong(done);
            }
        }

        private int leastLong(int done) {
            int found = FAR;
            for (int w = 0; w < count; w++) {
                if (mayCome(w, done) && longs[done | 1 << w] < found) {
                    int wide = wide(w, done);
                    if (wide <= longsCap) {
                        found = Math.min(found, wide + longs[done | 1 << w]);
                    }
                }
            }
            return found;
        }

        private int nextBehind(int done) {
            for (int w = 0; w < count; w++) {
                if (mayCome(w, done)) {
                    int wide = wide(w, done);
                    if (wide <= longsCap && wide + longs[done | 1 << w] == longs[done]) {
                        return w;
                    }
                }
            }
            return NONE;
        }
    }

    /** CROSS, KNOT, PARTS and WITHIN. */
    private static final class Bounds {
        final int[] crossings = new int[WORKS + 1];
        int knotted;
        int knottedSize;
        private final Works works;
        private final int[] joined = new int[THINGS];
        private int version = -1;

        Bounds(Works works) {
            this.works = works;
        }

        void refresh() {
            if (version != works.version) {
                fillCrossings();
                findKnot();
                version = works.version;
            }
        }

        int greatestCross() {
            int greatest = 0;
            for (int k = 0; k <= works.count; k++) {
                greatest = Math.max(greatest, crossings[k]);
            }
            return greatest;
        }

        private void fillCrossings() {
            for (int k = 0; k <= works.count; k++) {
                crossings[k] = FAR;
            }
            int all = works.all();
            for (int set = 0; set <= all; set++) {
                if (works.isClosed(set)) {
                    int k = Integer.bitCount(set);
                    int both = works.neededBy(set) & works.neededBy(all & ~set);
                    crossings[k] = Math.min(crossings[k], works.sizes.sum(both));
                }
            }
        }

        private void findKnot() {
            fillJoined();
            int used = works.neededBy(works.all());
            knotted = 0;
            knottedSize = 0;
            for (int set = 1; set <= used; set++) {
                if ((set & ~used) == 0 && works.sizes.sum(set) > knottedSize && isKnot(set)) {
                    knotted = set;
                    knottedSize = works.sizes.sum(set);
                }
            }
        }

        private void fillJoined() {
            for (int t = 0; t < THINGS; t++) {
                joined[t] = 0;
                for (int w = 0; w < works.count; w++) {
                    if ((works.needs[w] >> t & 1) != 0) {
                        joined[t] |= works.needs[w];
                    }
                }
            }
        }

        private boolean isKnot(int set) {
            for (int t = 0; t < THINGS; t++) {
                if ((set >> t & 1) != 0 && (set & ~joined[t]) != 0) {
                    return false;
                }
            }
            return true;
        }

        int countParts() {
            int found = 0;
            for (int w = 0; w < works.count; w++) {
                if (leastOfPart(w) == w) {
                    found++;
                }
            }
            return found;
        }

        int leastOfPart(int w) {
            int least = w;
            int things = works.needs[w];
            for (int turn = 0; turn < works.count; turn++) {
                for (int v = 0; v < works.count; v++) {
                    if ((works.needs[v] & things) != 0) {
                        things |= works.needs[v];
                        least = Math.min(least, v);
                    }
                }
            }
            return least;
        }

        int allWithin() {
            int found = 0;
            for (int w = 0; w < works.count; w++) {
                for (int v = 0; v < works.count; v++) {
                    if (isWithin(w, v)) {
                        found |= 1 << w;
                    }
                }
            }
            return found;
        }

        private boolean isWithin(int w, int v) {
            if (works.needs[w] == works.needs[v]) {
                return v < w;
            }
            return (works.needs[w] & ~works.needs[v]) == 0;
        }
    }

    /** Betters a row by MOVES. */
    private static final class Mover {
        /** More than there are rows of nine WORKS; each MOVE leads to a BETTER one, so it is never come to. */
        private static final int MOVES = 1_000_000;

        final int[] row = new int[WORKS];
        private final int[] tried = new int[WORKS];
        private final Works works;
        private final Gauge gauge;
        private int most;
        private int total;

        Mover(Works works, Gauge gauge) {
            this.works = works;
            this.gauge = gauge;
        }

        /** How many MOVES it took from a LAWFUL row. */
        int improve(int[] start) {
            System.arraycopy(start, 0, row, 0, WORKS);
            gauge.measure(row);
            most = gauge.most;
            total = gauge.total;
            for (int done = 0; done < MOVES; done++) {
                if (!doFirstMove()) {
                    return done;
                }
            }
            return MOVES;
        }

        private boolean doFirstMove() {
            for (int place = 0; place < works.count; place++) {
                for (int to = 0; to < works.count; to++) {
                    if (place != to && isGood(place, to)) {
                        System.arraycopy(tried, 0, row, 0, WORKS);
                        most = gauge.most;
                        total = gauge.total;
                        return true;
                    }
                }
            }
            return false;
        }

        private boolean isGood(int place, int to) {
            System.arraycopy(row, 0, tried, 0, WORKS);
            if (place < to) {
                System.arraycopy(row, place + 1, tried, place, to - place);
            } else {
                System.arraycopy(row, to, tried, to + 1, place - to);
            }
            tried[to] = row[place];
            gauge.measure(tried);
            return gauge.lawful && gauge.beats(most, total, tried, row);
        }
    }

    /**
     * Prices of a row in a ROOM. A THING that lies between two WORKS of it at a place is either kept open there
     * or was closed, to be opened again for its PRICE; what is least is held by sets of those kept.
     */
    private static final class Room {
        private final Works works;
        private final Gauge gauge;
        private int[] cost = new int[THING_SETS];
        private int[] next = new int[THING_SETS];

        Room(Works works, Gauge gauge) {
            this.works = works;
            this.gauge = gauge;
        }

        /** With all open from first to last nothing is paid: so MOST is enough. The row has been measured. */
        int leastRoom(int[] row, int price) {
            int low = works.greatestNeed();
            int high = Math.max(low, gauge.most);
            while (low < high) {
                int middle = (low + high) / 2;
                if (leastPrice(row, middle) <= price) {
                    high = middle;
                } else {
                    low = middle + 1;
                }
            }
            return low;
        }

        /** The row has been measured, and no WORK NEEDS more than the ROOM. */
        int leastPrice(int[] row, int room) {
            cost[0] = 0;
            for (int k = 1; k < works.count; k++) {
                int between = gauge.open[k] & ~works.needs[row[k]];
                goOn(row, k, between);
                closeSome(between, room - works.sizes.sum(works.needs[row[k]]));
                int[] old = cost;
                cost = next;
                next = old;
            }
            return cost[0];
        }

        /** To place k with all still open that can be. */
        private void goOn(int[] row, int k, int between) {
            fillFar(between);
            int needsAhead = works.needs[row[k - 1]];
            int betweenAhead = gauge.open[k - 1] & ~needsAhead;
            int ended = betweenAhead & works.needs[row[k]];
            int kept = betweenAhead;
            for (int left = 1 << Integer.bitCount(betweenAhead); left > 0; left--) {
                if (cost[kept] < FAR) {
                    int still = (kept | needsAhead) & between;
                    next[still] = Math.min(next[still], cost[kept] + works.prices.sum(ended & ~kept));
                }
                kept = (kept - 1) & betweenAhead;
            }
        }

        private void fillFar(int between) {
            int kept = between;
            for (int left = 1 << Integer.bitCount(between); left > 0; left--) {
                next[kept] = FAR;
                kept = (kept - 1) & between;
            }
        }

        /** From the fullest set down, so that one THING less at a time comes to every set. */
        private void closeSome(int between, int room) {
            int kept = between;
            for (int left = 1 << Integer.bitCount(between); left > 0; left--) {
                if (next[kept] < FAR) {
                    closeOne(kept);
                    if (works.sizes.sum(kept) > room) {
                        next[kept] = FAR;
                    }
                }
                kept = (kept - 1) & between;
            }
        }

        private void closeOne(int kept) {
            for (int t = 0; t < THINGS; t++) {
                if ((kept >> t & 1) != 0) {
                    int fewer = kept & ~(1 << t);
                    next[fewer] = Math.min(next[fewer], next[kept]);
                }
            }
        }
    }

    /** TWO tables. */
    private static final class Tables {
        int first;
        int firstMost;
        int secondMost;
        private final Works works;
        private final Search search;
        private int version = -1;

        Tables(Works works, Search search) {
            this.works = works;
            this.search = search;
        }

        void refresh() {
            if (version != works.version) {
                divide();
                version = works.version;
            }
        }

        private void divide() {
            int all = works.all();
            // No parting is below what one WORK NEEDS: the first that is so low is the one.
            int floor = works.greatestNeed();
            int least = FAR;
            for (int set = 1; set <= all && least > floor; set += 2) {
                int mostHere = search.leastMost(set, least);
                if (mostHere < least) {
                    int mostThere = search.leastMost(all & ~set, least);
                    if (mostThere < least) {
                        least = Math.max(mostHere, mostThere);
                        first = set;
                        firstMost = mostHere;
                        secondMost = mostThere;
                    }
                }
            }
        }
    }
}
