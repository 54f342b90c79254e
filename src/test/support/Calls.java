import java.lang.reflect.InvocationTargetException;
import java.lang.reflect.Method;
import java.util.Arrays;
import java.util.HashMap;
import java.util.Map;

/** Calls of TileBench by name, with their answers as texts: a number, "done", or "throws." and the exception. */
final class Calls {
    static final String STATE = "throws.IllegalStateException";
    static final String ARGUMENT = "throws.IllegalArgumentException";
    static final String INDEX = "throws.IndexOutOfBoundsException";
    static final String UNSUPPORTED = "throws.UnsupportedOperationException";
    static final String DONE = "done";

    private static final Map<String, Method> METHODS = new HashMap<>();

    private Calls() {
    }

    static String text(String name, int... numbers) {
        return name + Arrays.toString(numbers).replace('[', '(').replace(']', ')');
    }

    static String answer(TileBench bench, String name, int... numbers) {
        Object[] arguments = Arrays.stream(numbers).boxed().toArray();
        try {
            Object got = METHODS.computeIfAbsent(name, Calls::method).invoke(bench, arguments);
            return got == null ? DONE : got instanceof Boolean yes ? (yes ? "1" : "0") : got.toString();
        } catch (InvocationTargetException e) {
            return "throws." + e.getCause().getClass().getSimpleName();
        } catch (IllegalAccessException e) {
            throw new AssertionError(e);
        }
    }

    private static Method method(String name) {
        for (Method m : TileBench.class.getDeclaredMethods()) {
            if (m.getName().equals(name)) {
                return m;
            }
        }
        throw new AssertionError("there is no method " + name);
    }
}
