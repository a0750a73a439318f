import java.util.ArrayList;
import java.util.HashMap;
import java.util.List;
import java.util.Map;

/**
 * The document once more, by trying everything: every order, every set, every text that a beginning could
 * grow to. Slow, and with nothing in common with the class but the document.
 */
final class Plain {
    private static final int UNKNOWN = -1, OUTSIDE = -2, STATE = -3, FULL = -4, NONE = -9;
    private static final long LOST = Long.MIN_VALUE;

    private final List<Integer> needs = new ArrayList<>();
    private final List<Integer> befores = new ArrayList<>();
    private final int[] size = {1, 1, 1, 1, 1, 1, 1, 1, 1, 1};
    private final int[] price = {1, 1, 1, 1, 1, 1, 1, 1, 1, 1};
    private final List<Integer> kinds = new ArrayList<>();
    private final List<List<Integer>> rows = new ArrayList<>();
    private final Object[] sheets = new Object[4];
    private int trace;
    private int fault;

    // ---- texts

    private static boolean isText(String text) {
        String[] items = text.split(";", -1);
        if (items.length > 12) {
            return false;
        }
        int works = 0;
        boolean sizes = false;
        String told = "";
        for (String item : items) {
            if (item.matches("w[a-j]*(<[0-9])*")) {
                if (sizes || works == 9 || !isWork(item, works)) {
                    return false;
                }
                works++;
            } else if (item.matches("s[a-j][1-9]")) {
                if (works == 0 || told.indexOf(item.charAt(1)) >= 0) {
                    return false;
                }
                sizes = true;
                told += item.charAt(1);
            } else {
                return false;
            }
        }
        return works > 0;
    }

    private static boolean isWork(String item, int ahead) {
        String seen = "";
        for (int i = 1; i < item.length(); i++) {
            char c = item.charAt(i);
            if (c != '<' && seen.indexOf(c) >= 0) {
                return false;
            }
            if (Character.isDigit(c) && c - '0' >= ahead) {
                return false;
            }
            seen += c;
        }
        return true;
    }

    private static boolean goesOn(String begun, int codes) {
        if (isText(begun)) {
            return true;
        }
        if (codes > 0) {
            for (char c : "ws<;abcdefghij0123456789".toCharArray()) {
                if (goesOn(begun + c, codes - 1)) {
                    return true;
                }
            }
        }
        return false;
    }

    private static boolean isLetStand(String begun) {
        String ahead = begun.substring(0, begun.length() - 1);
        String item = begun.substring(begun.lastIndexOf(';', begun.length() - 2) + 1);
        if (begun.endsWith("<")) {
            return item.matches("w[a-j]*(<[0-9])*<") && isText(ahead);
        }
        return begun.endsWith(";") && isText(ahead) && ahead.split(";", -1).length < 12;
    }

    static int firstFault(String text) {
        for (int k = 0; k < text.length(); k++) {
            String begun = text.substring(0, k + 1);
            if (!isLetStand(begun) && !goesOn(begun, 2)) {
                return k;
            }
        }
        return isText(text) ? -1 : text.length();
    }

    // ---- orders of some works

    private int weight(int things) {
        int sum = 0;
        for (int t = 0; t < 10; t++) {
            if ((things >> t & 1) != 0) {
                sum += size[t];
            }
        }
        return sum;
    }

    private int openAt(List<Integer> row, int place) {
        int open = 0;
        for (int t = 0; t < 10; t++) {
            int first = -1;
            int last = -1;
            for (int k = 0; k < row.size(); k++) {
                if ((needs.get(row.get(k)) >> t & 1) != 0) {
                    first = first < 0 ? k : first;
                    last = k;
                }
            }
            if (first >= 0 && first <= place && place <= last) {
                open |= 1 << t;
            }
        }
        return open;
    }

    private int mostOf(List<Integer> row, int from) {
        int most = 0;
        for (int k = from; k < row.size(); k++) {
            most = Math.max(most, weight(openAt(row, k)));
        }
        return most;
    }

    private int longOf(List<Integer> row, int from) {
        int sum = 0;
        for (int k = from; k < row.size(); k++) {
            sum += weight(openAt(row, k));
        }
        return sum;
    }

    private boolean lawful(List<Integer> row) {
        for (int k = 0; k < row.size(); k++) {
            for (int l = k + 1; l < row.size(); l++) {
                if ((befores.get(row.get(k)) >> row.get(l) & 1) != 0) {
                    return false;
                }
            }
        }
        return true;
    }

    private boolean isBetter(List<Integer> row, List<Integer> other, int from) {
        if (mostOf(row, from) != mostOf(other, from)) {
            return mostOf(row, from) < mostOf(other, from);
        }
        if (longOf(row, from) != longOf(other, from)) {
            return longOf(row, from) < longOf(other, from);
        }
        for (int k = 0; k < row.size(); k++) {
            if (!row.get(k).equals(other.get(k))) {
                return row.get(k) < other.get(k);
            }
        }
        return false;
    }

    /** The best lawful row of the works of a set that begins as told. */
    private List<Integer> bestOf(int set, List<Integer> begun, int from) {
        List<Integer> best = null;
        boolean whole = true;
        for (int w = 0; w < needs.size(); w++) {
            if ((set >> w & 1) != 0 && !begun.contains(w)) {
                whole = false;
                boolean may = true;
                for (int v = 0; v < needs.size(); v++) {
                    may = may && ((set & befores.get(w)) >> v & 1) <= (begun.contains(v) ? 1 : 0);
                }
                if (may) {
                    begun.add(w);
                    List<Integer> found = bestOf(set, begun, from);
                    begun.remove(begun.size() - 1);
                    if (found != null && (best == null || isBetter(found, best, from))) {
                        best = found;
                    }
                }
            }
        }
        return whole ? new ArrayList<>(begun) : best;
    }

    private int all() {
        return (1 << needs.size()) - 1;
    }

    private int leastMost(int set) {
        return mostOf(bestOf(set, new ArrayList<>(), 0), 0);
    }

    // ---- 1 the shop

    private boolean isWorkNumber(int w) {
        return w >= 0 && w < needs.size();
    }

    private static int lengthOf(Object row) {
        return row instanceof byte[] b ? b.length : row instanceof short[] s ? s.length : ((int[]) row).length;
    }

    private static int laneOf(Object row) {
        return row instanceof byte[] ? 0 : row instanceof short[] ? 1 : 2;
    }

    private static int at(Object row, int i) {
        return row instanceof byte[] b ? b[i] : row instanceof short[] s ? s[i] : ((int[]) row)[i];
    }

    private int cellsFault(int k, int lane, int i, int n) {
        Object row = sheets[k];
        if (row == null) {
            return 1;
        }
        if (laneOf(row) != lane) {
            return 2;
        }
        if (n < 0) {
            return 4;
        }
        return i < 0 || i > lengthOf(row) || (long) i + n > lengthOf(row) ? 3 : 0;
    }

    private int fails(int f) {
        fault = f;
        return -10 - f;
    }

    int shop(int sheet, int lane, int i, int n) {
        fault = 0;
        if (sheet < 0 || sheet > 3) {
            return UNKNOWN;
        }
        if (lane < 0 || lane > 2) {
            return OUTSIDE;
        }
        int f = cellsFault(sheet, lane, i, n);
        if (f != 0) {
            return fails(f);
        }
        StringBuilder codes = new StringBuilder();
        for (int k = 0; k < n; k++) {
            int code = at(sheets[sheet], i + k);
            codes.append(code < 0 || code > 127 ? '?' : (char) code);
        }
        int place = firstFault(codes.toString());
        if (place >= 0) {
            return -100 - place;
        }
        takeText(codes.toString());
        return needs.size();
    }

    private void takeText(String text) {
        needs.clear();
        befores.clear();
        rows.clear();
        kinds.clear();
        java.util.Arrays.fill(size, 1);
        for (String item : text.split(";")) {
            if (item.charAt(0) == 's') {
                size[item.charAt(1) - 'a'] = item.charAt(2) - '0';
            } else {
                int need = 0;
                int ahead = 0;
                for (char c : item.substring(1).toCharArray()) {
                    need |= c >= 'a' ? 1 << (c - 'a') : 0;
                    ahead |= c >= '0' && c <= '9' ? 1 << (c - '0') : 0;
                }
                needs.add(need);
                befores.add(ahead);
            }
        }
    }

    int work(int need, int ahead) {
        if (need < 0 || need > 1023 || ahead < 0 || ahead > all()) {
            return OUTSIDE;
        }
        if (needs.size() == 9) {
            return FULL;
        }
        needs.add(need);
        befores.add(ahead);
        rows.clear();
        kinds.clear();
        return needs.size() - 1;
    }

    int ofWork(int w, int what) {
        if (!isWorkNumber(w)) {
            return UNKNOWN;
        }
        return what == 0 ? needs.get(w) : what == 1 ? befores.get(w) : OUTSIDE;
    }

    private boolean reaches(int w, int other) {
        if ((befores.get(other) >> w & 1) != 0) {
            return true;
        }
        for (int v = 0; v < needs.size(); v++) {
            if ((befores.get(other) >> v & 1) != 0 && reaches(w, v)) {
                return true;
            }
        }
        return false;
    }

    int before(int w, int other, boolean is) {
        if (!isWorkNumber(w) || !isWorkNumber(other)) {
            return UNKNOWN;
        }
        if (w == other) {
            return OUTSIDE;
        }
        boolean was = (befores.get(other) >> w & 1) != 0;
        if (was == is) {
            return 0;
        }
        if (is && reaches(other, w)) {
            return STATE;
        }
        befores.set(other, befores.get(other) ^ 1 << w);
        return 1;
    }

    int thing(int t, int what, int v) {
        if (t < 0 || t > 9) {
            return UNKNOWN;
        }
        if (what < 0 || what > 1 || v < (what == 0 ? 1 : 0) || v > (what == 0 ? 9 : 99)) {
            return OUTSIDE;
        }
        int[] of = what == 0 ? size : price;
        int was = of[t];
        of[t] = v;
        return was;
    }

    // ---- 2 orders

    int order(int kind, int sheet, int lane, int i, int n) {
        fault = 0;
        if (sheet < 0 || sheet > 3) {
            return UNKNOWN;
        }
        if (kind < 0 || kind > 2 || lane < 0 || lane > 2) {
            return OUTSIDE;
        }
        int f = cellsFault(sheet, lane, i, n);
        if (f != 0) {
            return fails(f);
        }
        if (n == 0 || n != needs.size()) {
            return OUTSIDE;
        }
        List<Integer> row = new ArrayList<>();
        for (int k = 0; k < n; k++) {
            row.add(at(sheets[sheet], i + k));
        }
        for (int w : row) {
            if (!isWorkNumber(w)) {
                return UNKNOWN;
            }
        }
        if (row.stream().distinct().count() != n || kind != 0 && !lawful(row)) {
            return STATE;
        }
        return keep(kind, row);
    }

    private int keep(int kind, List<Integer> row) {
        if (rows.size() == 8) {
            return FULL;
        }
        rows.add(row);
        kinds.add(kind);
        return rows.size() - 1;
    }

    private boolean isOrder(int o) {
        return o >= 0 && o < rows.size();
    }

    int ofOrder(int o, int what) {
        if (!isOrder(o)) {
            return UNKNOWN;
        }
        List<Integer> row = rows.get(o);
        if (what >= 0 && what <= 3) {
            return what == 0 ? kinds.get(o) : what == 1 ? mostOf(row, 0) : what == 2 ? longOf(row, 0) : lawful(row) ? 1 : 0;
        }
        for (int k = 0; k < row.size(); k++) {
            if (what == 10 + k) {
                return row.get(k);
            }
            if (what == 20 + k) {
                return openAt(row, k);
            }
            if (what == 30 + k) {
                return weight(openAt(row, k));
            }
        }
        return OUTSIDE;
    }

    int best(int what) {
        if (needs.isEmpty()) {
            return STATE;
        }
        if (what < 0 || what > 1 && what < 10 || what >= 10 + needs.size()) {
            return OUTSIDE;
        }
        List<Integer> row = bestOf(all(), new ArrayList<>(), 0);
        return what == 0 ? mostOf(row, 0) : what == 1 ? longOf(row, 0) : row.get(what - 10);
    }

    int from(int o, int k, int what) {
        if (!isOrder(o)) {
            return UNKNOWN;
        }
        if (k < 0 || k > needs.size() || what < 0 || what > 2) {
            return OUTSIDE;
        }
        List<Integer> done = new ArrayList<>(rows.get(o).subList(0, k));
        for (int w : done) {
            for (int v = 0; v < needs.size(); v++) {
                if ((befores.get(w) >> v & 1) != 0 && !done.contains(v)) {
                    return STATE;
                }
            }
        }
        List<Integer> row = bestOf(all(), done, k);
        if (what == 2) {
            return k == row.size() ? NONE : row.get(k);
        }
        return what == 0 ? mostOf(row, k) : longOf(row, k);
    }

    int better(int o, int other) {
        if (!isOrder(o) || !isOrder(other)) {
            return UNKNOWN;
        }
        return isBetter(rows.get(o), rows.get(other), 0) ? 1 : 0;
    }

    // ---- 3 bounds

    private int neededBy(int set) {
        int things = 0;
        for (int w = 0; w < needs.size(); w++) {
            things |= (set >> w & 1) != 0 ? needs.get(w) : 0;
        }
        return things;
    }

    int cross(int k) {
        if (k < 0 || k > needs.size()) {
            return OUTSIDE;
        }
        int least = Integer.MAX_VALUE;
        for (int set = 0; set <= all(); set++) {
            int ahead = 0;
            for (int w = 0; w < needs.size(); w++) {
                ahead |= (set >> w & 1) != 0 ? befores.get(w) : 0;
            }
            if (Integer.bitCount(set) == k && (ahead | set) == set) {
                least = Math.min(least, weight(neededBy(set) & neededBy(all() ^ set)));
            }
        }
        return least;
    }

    private boolean share(int t, int u) {
        for (int need : needs) {
            if ((need >> t & need >> u & 1) != 0) {
                return true;
            }
        }
        return false;
    }

    int knot(int what) {
        if (what < 0 || what > 1) {
            return OUTSIDE;
        }
        int best = 0;
        for (int set = 0; set < 1024; set++) {
            boolean tied = true;
            for (int t = 0; t < 10; t++) {
                for (int u = 0; u < 10; u++) {
                    tied = tied && ((set >> t & set >> u & 1) == 0 || share(t, u));
                }
            }
            if (tied && weight(set) > weight(best)) {
                best = set;
            }
        }
        return what == 0 ? best : weight(best);
    }

    int bound() {
        int greatest = knot(1);
        for (int k = 0; k <= needs.size(); k++) {
            greatest = Math.max(greatest, cross(k));
        }
        for (int need : needs) {
            greatest = Math.max(greatest, weight(need));
        }
        return greatest;
    }

    private int joinedTo(int w, int set) {
        int found = set | 1 << w;
        for (int v = 0; v < needs.size(); v++) {
            if ((found >> v & 1) == 0 && (needs.get(w) & needs.get(v)) != 0) {
                found = joinedTo(v, found);
            }
        }
        return found;
    }

    int part(int w) {
        if (w == -1) {
            return (int) java.util.stream.IntStream.range(0, needs.size()).map(v -> joinedTo(v, 0)).distinct().count();
        }
        return isWorkNumber(w) ? Integer.numberOfTrailingZeros(joinedTo(w, 0)) : UNKNOWN;
    }

    int within() {
        int set = 0;
        for (int w = 0; w < needs.size(); w++) {
            for (int v = 0; v < needs.size(); v++) {
                boolean inside = (needs.get(w) | needs.get(v)) == needs.get(v);
                boolean alike = needs.get(w).equals(needs.get(v));
                if (w != v && inside && (!alike || w > v)) {
                    set |= 1 << w;
                }
            }
        }
        return set;
    }

    // ---- 4 rules, moves

    int build(int rule, int seen) {
        if (rule < 0 || rule > 2 || seen < 1 || seen > 9) {
            return OUTSIDE;
        }
        if (needs.isEmpty()) {
            return STATE;
        }
        List<Integer> row = new ArrayList<>();
        int done = 0;
        for (int place = 0; place < needs.size(); place++) {
            List<Integer> choice = new ArrayList<>();
            for (int w = 0; w < needs.size(); w++) {
                if (!row.contains(w) && (befores.get(w) | done) == done && choice.size() < seen) {
                    choice.add(w);
                }
            }
            int chosen = -1;
            int chosenFor = 0;
            for (int w : choice) {
                int opens = weight(needs.get(w) & ~neededBy(done));
                int closes = weight(needs.get(w) & ~neededBy(all() ^ done ^ 1 << w));
                int worth = rule == 0 ? closes : rule == 1 ? -opens : closes - opens;
                if (chosen < 0 || worth > chosenFor) {
                    chosen = w;
                    chosenFor = worth;
                }
            }
            row.add(chosen);
            done |= 1 << chosen;
        }
        return keep(1, row);
    }

    private int moved;

    private List<Integer> moveAll(List<Integer> start) {
        List<Integer> row = start;
        moved = -1;
        for (List<Integer> next = row; next != null; next = firstMove(row)) {
            row = next;
            moved++;
        }
        return row;
    }

    private List<Integer> firstMove(List<Integer> row) {
        for (int k = 0; k < row.size(); k++) {
            for (int l = 0; l < row.size(); l++) {
                List<Integer> other = new ArrayList<>(row);
                other.add(l, other.remove(k));
                if (lawful(other) && isBetter(other, row, 0)) {
                    return other;
                }
            }
        }
        return null;
    }

    int move(int o) {
        if (!isOrder(o)) {
            return UNKNOWN;
        }
        return lawful(rows.get(o)) ? keep(1, moveAll(rows.get(o))) : STATE;
    }

    int moves(int o) {
        if (!isOrder(o)) {
            return UNKNOWN;
        }
        if (!lawful(rows.get(o))) {
            return STATE;
        }
        moveAll(rows.get(o));
        return moved;
    }

    // ---- 5 room, tables, what makes it wide

    int cheapest(int o, int r) {
        if (!isOrder(o)) {
            return UNKNOWN;
        }
        return r < 0 || r > 99 ? OUTSIDE : cheapestOf(rows.get(o), r);
    }

    /** Over all that may lie open and all that ever was, even what it would be foolish to open. */
    private int cheapestOf(List<Integer> row, int r) {
        int used = neededBy(all());
        Map<Integer, Integer> costs = new HashMap<>(Map.of(0, 0));
        for (int w : row) {
            Map<Integer, Integer> next = new HashMap<>();
            for (Map.Entry<Integer, Integer> state : costs.entrySet()) {
                int open = state.getKey() & 1023;
                int ever = state.getKey() >> 10;
                for (int now = 0; now <= used; now++) {
                    if ((now | used) == used && (now & needs.get(w)) == needs.get(w) && weight(now) <= r) {
                        int cost = state.getValue();
                        for (int t = 0; t < 10; t++) {
                            cost += ((now & ~open & ever) >> t & 1) * price[t];
                        }
                        next.merge(now | (ever | now) << 10, cost, Math::min);
                    }
                }
            }
            costs = next;
        }
        return costs.values().stream().min(Integer::compare).orElse(NONE);
    }

    int room(int o, int p) {
        if (!isOrder(o)) {
            return UNKNOWN;
        }
        if (p < 0 || p > 9999) {
            return OUTSIDE;
        }
        for (int r = 0; r <= 99; r++) {
            int cost = cheapestOf(rows.get(o), r);
            if (cost != NONE && cost <= p) {
                return r;
            }
        }
        return NONE;
    }

    int two(int what) {
        if (needs.isEmpty()) {
            return STATE;
        }
        if (what < 0 || what > 3) {
            return OUTSIDE;
        }
        int least = Integer.MAX_VALUE;
        int first = 0;
        for (int set = 0; set <= all(); set++) {
            if ((set & 1) != 0) {
                int greater = Math.max(leastMost(set), leastMost(all() ^ set));
                if (greater < least) {
                    least = greater;
                    first = set;
                }
            }
        }
        return what == 0 ? least : what == 1 ? first : leastMost(what == 2 ? first : all() ^ first);
    }

    int without(int w) {
        return isWorkNumber(w) ? leastMost(all() ^ 1 << w) : UNKNOWN;
    }

    int why(int w, int other) {
        if (!isWorkNumber(w) || !isWorkNumber(other)) {
            return UNKNOWN;
        }
        if ((befores.get(other) >> w & 1) == 0) {
            return STATE;
        }
        befores.set(other, befores.get(other) ^ 1 << w);
        int most = leastMost(all());
        befores.set(other, befores.get(other) ^ 1 << w);
        return most;
    }

    int widest() {
        int found = NONE;
        for (int w = needs.size() - 1; w >= 0; w--) {
            if (found == NONE || without(w) <= without(found)) {
                found = w;
            }
        }
        return found;
    }

    // ---- 6 sheets, parts

    int sheet(int k, int lane, int n) {
        fault = 0;
        if (k < 0 || k > 3) {
            return UNKNOWN;
        }
        if (lane < 0 || lane > 2 || n > 60) {
            return OUTSIDE;
        }
        if (n < 0) {
            return fails(4);
        }
        sheets[k] = lane == 0 ? new byte[n] : lane == 1 ? new short[n] : new int[n];
        return 1;
    }

    int lose(int k) {
        if (k < 0 || k > 3) {
            return UNKNOWN;
        }
        int had = sheets[k] != null ? 1 : 0;
        sheets[k] = null;
        return had;
    }

    int put(int k, int i, int v) {
        fault = 0;
        if (k < 0 || k > 3) {
            return UNKNOWN;
        }
        if (sheets[k] == null) {
            return fails(1);
        }
        if (i < 0 || i >= lengthOf(sheets[k])) {
            return fails(3);
        }
        if (sheets[k] instanceof byte[] b) {
            b[i] = (byte) v;
        } else if (sheets[k] instanceof short[] s) {
            s[i] = (short) v;
        } else {
            ((int[]) sheets[k])[i] = v;
        }
        return 1;
    }

    long cell(int k, int i, int lane) {
        fault = 0;
        if (k < 0 || k > 3 || lane < 0 || lane > 2) {
            return LOST;
        }
        Object row = sheets[k];
        fault = row == null ? 1 : laneOf(row) != lane ? 2 : i < 0 || i >= lengthOf(row) ? 3 : 0;
        return fault != 0 ? LOST : at(row, i);
    }

    private class Row {
        final int number;

        Row(int number) {
            this.number = number;
        }

        int told() {
            trace = 31 * trace + 1;
            return mostOf(rows.get(number), 0);
        }

        final int toldAsRow() {
            return Row.this.rowBody();
        }

        private int rowBody() {
            trace = 31 * trace + 1;
            return mostOf(rows.get(number), 0);
        }

        int shown() {
            trace = 31 * trace + 4;
            return number;
        }
    }

    private class Before extends Row {
        Before(int number) {
            super(number);
        }

        @Override
        int told() {
            trace = 31 * trace + 2;
            return super.told() + 1000;
        }
    }

    private class Again extends Before {
        Again(int number) {
            super(number);
        }

        @Override
        int told() {
            trace = 31 * trace + 3;
            return super.told() + toldAsRow();
        }

        @Override
        int shown() {
            trace = 31 * trace + 5;
            return 80;
        }
    }

    private Row object(int o) {
        int kind = kinds.get(o);
        return kind == 0 ? new Row(o) : kind == 1 ? new Before(o) : new Again(o);
    }

    int tell(int o) {
        return isOrder(o) ? object(o).told() : UNKNOWN;
    }

    int show(int o) {
        return isOrder(o) ? object(o).shown() : UNKNOWN;
    }

    int as(int o, int kind) {
        fault = 0;
        if (!isOrder(o)) {
            return UNKNOWN;
        }
        if (kind < 0 || kind > 2) {
            return OUTSIDE;
        }
        Row row = object(o);
        boolean is = kind == 0 || kind == 1 && row instanceof Before || row instanceof Again;
        return is ? 1 : fails(2);
    }

    int trace() {
        return trace;
    }

    int fault() {
        return fault;
    }

    int many(int what) {
        return switch (what) {
            case 0 -> needs.size();
            case 1 -> rows.size();
            case 2 -> befores.stream().mapToInt(Integer::bitCount).sum();
            case 3 -> Integer.bitCount(neededBy(all()));
            default -> OUTSIDE;
        };
    }
}
