import java.lang.reflect.InvocationTargetException;
import java.lang.reflect.Method;
import java.lang.reflect.Modifier;
import java.util.Arrays;
import java.util.LinkedHashMap;
import java.util.Map;
import java.util.NoSuchElementException;
import java.util.function.Supplier;

/** Rule 7 of the language: whatever the numbers, in whatever state, no call throws, but led() as it says. */
public final class NumbersTest {
    private static final int[] NUMBERS = {Integer.MIN_VALUE, Integer.MIN_VALUE + 1, -65537, -101, -2, -1, 0, 1, 2, 3, 4, 5, 7, 8, 9, 10,
        12, 13, 16, 20, 31, 32, 33, 60, 61, 100, 800, 801, 65536, 65537, Integer.MAX_VALUE - 1, Integer.MAX_VALUE};
    private static final int CALLS = 512;

    private final Supplier<SpoonTable> made;
    private SpoonTable x;
    private int calls = CALLS;

    private NumbersTest(Supplier<SpoonTable> made) {
        this.made = made;
    }

    public static void main(String[] args) throws Exception {
        Map<String, Supplier<SpoonTable>> all = new LinkedHashMap<>();
        all.put("no TABLE", SpoonTable::new);
        all.put("a tape alone", Tables::onlyTape);
        all.put("one alone", Tables::alone);
        all.put("a busy table", Tables::busy);
        all.put("a full table", Tables::full);
        for (Map.Entry<String, Supplier<SpoonTable>> made : all.entrySet()) {
            NumbersTest test = new NumbersTest(made.getValue());
            for (Method m : SpoonTable.class.getDeclaredMethods()) {
                if (Modifier.isPublic(m.getModifiers())) {
                    test.allNumbers(made.getKey(), m);
                }
            }
        }
        Check.end();
    }

    private void allNumbers(String what, Method m) throws Exception {
        Object[] with = new Object[m.getParameterCount()];
        // Five numbers would be too many to try in all ways: feed() has all alike.
        boolean alike = with.length > 4;
        long ways = 1;
        for (int i = 0; i < with.length && !(alike && i > 0); i++) {
            ways *= choices(m, i);
        }
        for (long way = 0; way < ways; way++) {
            long left = way;
            for (int i = 0; i < with.length; i++) {
                int choice = (int) (left % choices(m, i));
                with[i] = m.getParameterTypes()[i] == boolean.class ? (Object) (choice == 1) : (Object) NUMBERS[choice];
                left = alike ? left : left / choices(m, i);
            }
            call(what, m, with);
        }
    }

    private static int choices(Method m, int i) {
        return m.getParameterTypes()[i] == boolean.class ? 2 : NUMBERS.length;
    }

    private void call(String what, Method m, Object[] with) throws Exception {
        if (calls >= CALLS / 2) {
            x = made.get();
            calls = 0;
        }
        calls++;
        Throwable thrown = null;
        try {
            m.invoke(x, with);
        } catch (InvocationTargetException e) {
            thrown = e.getCause();
        }
        boolean fine = thrown == null || m.getName().equals("led") && thrown.getClass() == NoSuchElementException.class;
        Check.due(what + ": " + m.getName() + Arrays.toString(with) + (fine ? "" : " throws " + thrown), fine, true);
    }
}
