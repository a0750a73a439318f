import java.lang.reflect.InvocationTargetException;
import java.lang.reflect.Method;
import java.lang.reflect.Modifier;
import java.util.ArrayList;
import java.util.List;
import java.util.function.Supplier;

/** LANGUAGE.md, rule 7: no call throws, whatever its arguments, in any state; and each answers as such calls can. */
public final class AnyArgumentsTest {
    private static final Check CHECK = new Check();
    private static final int[] NUMBERS = {Integer.MIN_VALUE, -32, -10, -2, -1, 0, 1, 2, 3, 4, 7, 8, 9, 10, 11, 18, 19, 31,
        32, 38, 39, 59, 60, 61, 99, 100, 511, 512, 1023, 1024, 9999, 10000, 65536, Integer.MAX_VALUE};
    /** For calls of four numbers or five: else there are too many. */
    private static final int[] FEW = {Integer.MIN_VALUE, -1, 0, 1, 2, 3, 4, 9, 60, Integer.MAX_VALUE};

    public static void main(String[] args) throws Exception {
        List<Supplier<OpenPots>> states = List.of(OpenPots::new, AnyArgumentsTest::some, AnyArgumentsTest::full);
        for (Supplier<OpenPots> state : states) {
            for (Method method : OpenPots.class.getDeclaredMethods()) {
                if (Modifier.isPublic(method.getModifiers())) {
                    callWithAll(state, method);
                }
            }
        }
        CHECK.end();
    }

    private static OpenPots some() {
        OpenPots x = Check.shopOf("wab;wbc<0;wcd;sb2");
        Check.order(x, 0, 2, 1, 0);
        Check.order(x, 2, 0, 1, 2);
        x.sheet(0, 0, 0);
        x.sheet(1, 1, 60);
        x.lose(3);
        return x;
    }

    private static OpenPots full() {
        OpenPots x = new OpenPots();
        for (int w = 0; w < 9; w++) {
            x.work(1023 >> w, w == 0 ? 0 : 1 << (w - 1));
        }
        for (int t = 0; t < 10; t++) {
            x.thing(t, 0, 9);
            x.thing(t, 1, 99);
        }
        for (int o = 0; o < 8; o++) {
            x.build(o % 3, o + 1);
        }
        x.sheet(0, 0, 9);
        for (int k = 0; k < 9; k++) {
            x.put(0, k, k);
        }
        x.sheet(1, 1, 60);
        x.sheet(2, 2, 60);
        x.put(2, 0, 'w');
        return x;
    }

    private static void callWithAll(Supplier<OpenPots> state, Method method) throws Exception {
        Class<?>[] types = method.getParameterTypes();
        int[] numbers = types.length > 3 ? FEW : NUMBERS;
        int turns = 1;
        for (Class<?> type : types) {
            turns *= type == boolean.class ? 2 : numbers.length;
        }
        OpenPots x = state.get();
        for (int turn = 0; turn < turns; turn++) {
            // What a call did must not keep the next ones from the state that is meant.
            if (turn % 16 == 0) {
                x = state.get();
            }
            List<Object> arguments = new ArrayList<>();
            int left = turn;
            for (Class<?> type : types) {
                int n = type == boolean.class ? 2 : numbers.length;
                arguments.add(type == boolean.class ? (Object) (left % n == 0) : (Object) numbers[left % n]);
                left /= n;
            }
            call(x, method, arguments.toArray());
        }
    }

    private static void call(OpenPots x, Method method, Object[] arguments) throws Exception {
        String call = method.getName() + java.util.Arrays.toString(arguments);
        try {
            long got = ((Number) method.invoke(x, arguments)).longValue();
            boolean any = method.getName().equals("trace") || method.getName().equals("cell");
            CHECK.due(call + " is within what can be answered, not " + got, any || got >= -160 && got <= 9999 ? 1 : 0, 1);
        } catch (InvocationTargetException thrown) {
            CHECK.due(call + " throws " + thrown.getCause(), 1, 0);
        }
    }
}
