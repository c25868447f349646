import java.lang.reflect.Method;
import java.util.Arrays;
import java.util.HashMap;
import java.util.Map;

/** Calls by their names, so that tables can tell them and the model can be asked the same. */
final class Calls {
    private static final Map<Class<?>, Map<String, Method>> KNOWN = new HashMap<>();

    private Calls() {
    }

    /** What a call answers that is told as "come 3"; whatever it throws ends the test. */
    static long of(Object target, String told) {
        return of(target, name(told), numbers(told));
    }

    static long of(Object target, String name, int... numbers) {
        try {
            Object[] boxed = Arrays.stream(numbers).boxed().toArray();
            return ((Number) known(target.getClass()).get(name).invoke(target, boxed)).longValue();
        } catch (ReflectiveOperationException e) {
            throw new IllegalStateException(told(name, numbers), e);
        }
    }

    static String name(String told) {
        return told.split(" ")[0];
    }

    static int[] numbers(String told) {
        return Arrays.stream(told.split(" ")).skip(1).mapToInt(Integer::parseInt).toArray();
    }

    static String told(String name, int... numbers) {
        StringBuilder told = new StringBuilder(name);
        for (int number : numbers) {
            told.append(' ').append(number);
        }
        return told.toString();
    }

    private static Map<String, Method> known(Class<?> type) {
        return KNOWN.computeIfAbsent(type, t -> {
            Map<String, Method> methods = new HashMap<>();
            for (Method m : t.getDeclaredMethods()) {
                methods.put(m.getName(), m);
            }
            return methods;
        });
    }
}
