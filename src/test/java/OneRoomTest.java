import com.sun.management.ThreadMXBean;
import java.lang.management.ManagementFactory;

/** All calls of a run live in one room: after the constructor no call makes anything. */
public final class OneRoomTest {
    private static final ThreadMXBean THREADS = (ThreadMXBean) ManagementFactory.getThreadMXBean();

    public static void main(String[] args) {
        Check check = new Check();
        // The first one also brings what the machine makes to load the class.
        OpenPots x = new OpenPots();
        long before = made();
        x = new OpenPots();
        long object = made() - before;
        calls(x);
        long start = made();
        int done = 0;
        for (int turn = 0; turn < 100; turn++) {
            done += calls(x);
        }
        long more = made() - start;
        System.out.println("object: " + object + " bytes, " + done + " calls: " + more + " bytes");
        check.due("an object of more than 64 KiB", object > 65536 ? 1 : 0, 0);
        // One thing has 16 bytes at least; some few may be the machine's own.
        check.due("calls that make things", more > 16L * done / 10 ? 1 : 0, 0);
        check.end();
    }

    private static long made() {
        return THREADS.getThreadAllocatedBytes(Thread.currentThread().getId());
    }

    private static int calls(OpenPots x) {
        String text = "wabc;wbd<0;wce;wad;wej;sb2;sj5";
        x.sheet(0, 0, 60);
        for (int i = 0; i < text.length(); i++) {
            x.put(0, i, text.charAt(i));
        }
        x.shop(0, 0, 0, text.length());
        x.work(3, 1);
        x.before(2, 3, true);
        x.thing(1, 0, 3);
        x.sheet(1, 2, 6);
        for (int k = 0; k < 6; k++) {
            x.put(1, k, k);
        }
        x.order(2, 1, 2, 0, 6);
        x.build(2, 3);
        x.move(0);
        for (int k = 0; k < 6; k++) {
            x.best(10 + k);
            x.from(0, k, 1);
            x.cross(k);
            x.part(k);
            x.without(k);
            x.why(k, 3);
            x.ofOrder(1, 20 + k);
            x.cheapest(0, 4 + k);
            x.room(1, k);
            x.cell(1, k, 2);
            x.ofWork(k, 1);
        }
        x.better(0, 1);
        x.knot(0);
        x.bound();
        x.within();
        x.moves(0);
        x.two(1);
        x.widest();
        x.tell(0);
        x.show(0);
        x.as(0, 2);
        x.many(3);
        x.lose(1);
        return text.length() + 92;
    }
}
