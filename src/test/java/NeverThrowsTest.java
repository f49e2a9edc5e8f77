import java.lang.reflect.InvocationTargetException;
import java.lang.reflect.Method;
import java.lang.reflect.Modifier;
import java.util.List;
import java.util.function.Supplier;

/** Each call with numbers at and beyond every boundary, on an empty, a busy and a full nursery: none throws. */
public final class NeverThrowsTest {
    private static final Check CHECK = new Check("NeverThrowsTest");
    private static final int[] NUMBERS = {Integer.MIN_VALUE, Integer.MIN_VALUE + 1, -33, -32, -31, -7, -6, -5, -1, 0, 1, 2, 3, 4, 5, 6,
        9, 10, 11, 12, 13, 15, 16, 18, 19, 20, 23, 24, 25, 29, 30, 31, 32, 33, 39, 40, 41, 52, 53, 64, 71, 72, 73, 100, 101,
        1023, 1024, 10000, 10001, Integer.MAX_VALUE - 1, Integer.MAX_VALUE};
    /** For calls with four numbers, so that all of them can be tried together. */
    private static final int[] FEW_NUMBERS = {Integer.MIN_VALUE, -1, 0, 1, 4, 5, 9, 10, 12, 23, 24, 31, 72, Integer.MAX_VALUE};
    private static final long[] CHARACTERS = {Long.MIN_VALUE, -1, 0, 1, 'a', 'w', ';', 127, 128, 255, 256, 0x6161, 0x610061,
        0x6161616161616161L, 0x3B613B613B613B61L, 0x7E7E7E7E7E7E7E7EL, 0x7F7F7F7F7F7F7F7FL, Long.MAX_VALUE};
    private static final int TIMES_WITHOUT_NUMBERS = 30;

    private static int tried;

    public static void main(String[] args) throws IllegalAccessException {
        List<Supplier<NurseryPlaces>> makers = List.of(NurseryPlaces::new, Nurseries::busy, NeverThrowsTest::full);
        for (int state = 0; state < makers.size(); state++) {
            for (Method method : NurseryPlaces.class.getDeclaredMethods()) {
                if (Modifier.isPublic(method.getModifiers())) tryAll("nursery " + state, makers.get(state).get(), method);
            }
        }
        CHECK.that("many calls were tried", tried > 1000000);
        CHECK.finish();
    }

    /** As many rooms, carers, children, characters and changes as there can be; all children are placed and come. */
    private static NurseryPlaces full() {
        NurseryPlaces x = new NurseryPlaces();
        for (int i = 0; i < 5; i++) x.room(0, 72, 40, 12);
        for (int i = 0; i < 12; i++) x.carer(i < 8 ? 0 : i - 7, 31, 0, 10);
        x.set(3, 0);
        for (int i = 0; i < 12; i++) x.child(1, i, 1023);
        x.admit();
        x.set(3, 9);
        for (int i = 12; i < 24; i++) x.child(1, i % 16, 511);
        x.admit();
        for (int i = 12; i < 24; i++) x.visit(i, 9);
        for (int i = 0; i < 12; i++) x.sick(i);
        x.save(0);
        x.save(1);
        Texts.put(x, "a" + ";a".repeat(37) + ";w1;s");
        x.put('1');
        CHECK.due("placed children of the full nursery", x.count(5), (1 << 24) - 1);
        CHECK.due("its visits", x.count(11), 12);
        CHECK.due("the length of its pad", x.count(12), 80);
        return x;
    }

    private static void tryAll(String state, NurseryPlaces x, Method method) throws IllegalAccessException {
        int arguments = method.getParameterCount();
        if (arguments == 0) {
            for (int i = 0; i < TIMES_WITHOUT_NUMBERS; i++) tryOne(state, x, method);
        } else if (method.getParameterTypes()[0] == long.class) {
            for (long characters : CHARACTERS) tryOne(state, x, method, characters);
        } else {
            int[] numbers = arguments > 3 ? FEW_NUMBERS : NUMBERS;
            int all = 1;
            for (int i = 0; i < arguments; i++) all *= numbers.length;
            for (int choice = 0; choice < all; choice++) tryOne(state, x, method, chosen(numbers, arguments, choice));
        }
    }

    private static Object[] chosen(int[] numbers, int arguments, int choice) {
        Object[] chosen = new Object[arguments];
        int rest = choice;
        for (int i = 0; i < arguments; i++) {
            chosen[i] = numbers[rest % numbers.length];
            rest /= numbers.length;
        }
        return chosen;
    }

    private static void tryOne(String state, NurseryPlaces x, Method method, Object... arguments) throws IllegalAccessException {
        tried++;
        try {
            int answer = (int) method.invoke(x, arguments);
            if (answer < NurseryPlaces.NONE) CHECK.due(state + ", " + method.getName() + List.of(arguments), answer, NurseryPlaces.NONE);
        } catch (InvocationTargetException thrown) {
            CHECK.that(state + ", " + method.getName() + List.of(arguments) + " threw " + thrown.getCause(), false);
        }
    }
}
