import java.lang.reflect.InvocationTargetException;
import java.lang.reflect.Method;
import java.lang.reflect.Modifier;
import java.util.Set;
import java.util.function.Supplier;

/** No call throws, whatever its numbers are; what only tells, and what is refused with a number below 0, changes nothing. */
public final class AnyNumbersTest {
    private static final int[] NUMBERS = {Integer.MIN_VALUE, -1000001, -101, -1, 0, 1, 2, 5, 6, 11, 12, 101, 1000001,
        Integer.MAX_VALUE};
    private static final int[] FEWER = {Integer.MIN_VALUE, -1, 0, 1, 4, 12, 1001, Integer.MAX_VALUE};
    /** Three calls for each of these and the making of the net stay within the 512 calls of an object. */
    private static final int ROUNDS = 140;
    private static final Set<String> TELLING = Set.of("corner", "get", "about", "holes", "split", "field", "fieldAt",
        "height", "flow", "sum", "count", "digest");
    private static final Set<String> CHANGING = Set.of("net", "edge", "face", "form", "slope", "rim", "cup", "mix", "wall",
        "raise");
    private static final Check check = new Check();

    public static void main(String[] args) throws IllegalAccessException {
        for (Method m : NetForms.class.getDeclaredMethods()) {
            if (Modifier.isPublic(m.getModifiers())) {
                callAll(m, NetForms::new);
                callAll(m, Nets::busy);
                callAll(m, Nets::allPlates);
            }
        }
        check.end();
    }

    private static void callAll(Method m, Supplier<NetForms> net) throws IllegalAccessException {
        int takes = m.getParameterCount();
        int[] numbers = takes > 3 ? FEWER : NUMBERS;
        int all = 1;
        for (int i = 0; i < takes; i++) {
            all *= numbers.length;
        }
        NetForms x = null;
        for (int n = 0; n < all; n++) {
            x = n % ROUNDS == 0 ? net.get() : x;
            Object[] values = new Object[takes];
            int rest = n;
            for (int i = 0; i < takes; i++) {
                values[i] = numbers[rest % numbers.length];
                rest /= numbers.length;
            }
            call(m, x, values);
        }
    }

    private static void call(Method m, NetForms x, Object[] values) throws IllegalAccessException {
        String name = m.getName() + java.util.Arrays.toString(values);
        long before = x.digest();
        try {
            long answer = ((Number) m.invoke(x, values)).longValue();
            boolean stays = TELLING.contains(m.getName()) || CHANGING.contains(m.getName()) && answer < 0;
            check.due(name + " changes something", stays && x.digest() != before ? 1 : 0, 0);
        } catch (InvocationTargetException e) {
            check.due(name + " throws " + e.getCause(), 1, 0);
        }
    }
}
