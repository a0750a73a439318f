import java.util.ArrayList;
import java.util.List;
import java.util.function.Supplier;
import java.util.function.ToLongFunction;

/** Two objects that were told the same; one of them is asked one thing more, which must change nothing. */
final class Twin {
    private final Check check;
    private final Supplier<OpenPots> made;

    Twin(Check check, Supplier<OpenPots> made) {
        this.check = check;
        this.made = made;
    }

    /** A call of one that names no FAULTS: fault() stays, too. */
    void stays(String call, ToLongFunction<OpenPots> asked, long want) {
        staysButFault(call, asked, want, made.get().fault());
    }

    /** A call of one that names FAULTS. */
    void staysButFault(String call, ToLongFunction<OpenPots> asked, long want, int fault) {
        OpenPots x = made.get();
        OpenPots y = made.get();
        check.due(call, asked.applyAsLong(x), want);
        check.due("fault() behind " + call, x.fault(), fault);
        List<Long> left = seen(y);
        List<Long> now = seen(x);
        check.due("how much is seen behind " + call, now.size(), left.size());
        for (int k = 0; k < Math.min(now.size(), left.size()); k++) {
            check.due("what is seen at " + k + " behind " + call, now.get(k), left.get(k));
        }
    }

    /** All that can be seen of an object but fault(); its SIZES and PRICES are 1 behind it. */
    private static List<Long> seen(OpenPots x) {
        List<Long> seen = new ArrayList<>();
        for (int what = 0; what < 4; what++) {
            seen.add((long) x.many(what));
        }
        seen.add((long) x.trace());
        for (int w = 0; w < x.many(0); w++) {
            seen.add((long) x.ofWork(w, 0));
            seen.add((long) x.ofWork(w, 1));
        }
        for (int o = 0; o < x.many(1); o++) {
            for (int what = 0; what < 4; what++) {
                seen.add((long) x.ofOrder(o, what));
            }
            seen.add(Check.row(x, o));
        }
        seen.add((long) x.best(0));
        seen.add((long) x.bound());
        for (int k = 0; k < 4; k++) {
            seeSheet(x, k, seen);
        }
        for (int t = 0; t < 10; t++) {
            seen.add((long) x.thing(t, 0, 1));
            seen.add((long) x.thing(t, 1, 1));
        }
        return seen;
    }

    private static void seeSheet(OpenPots x, int k, List<Long> seen) {
        for (int lane = 0; lane < 3; lane++) {
            x.cell(k, -1, lane);
            seen.add((long) x.fault());
            if (x.fault() == 3) {
                // To the first cell that is not there: an object is good for 512 calls alone.
                for (int i = 0; i <= 60 && (i == 0 || x.fault() == 0); i++) {
                    seen.add(x.cell(k, i, lane));
                }
            }
        }
    }
}
