import java.lang.reflect.InvocationTargetException;
import java.lang.reflect.Method;
import java.util.Arrays;

/** Calls a method of WardRoster, or of a class with the same face, by its name. */
final class Face {
    private Face() {
    }

    /** The answer as a text, null for a call without one, or the exact class that was thrown. */
    static String answer(Object bench, String name, int... values) {
        Class<?>[] types = new Class<?>[values.length];
        Arrays.fill(types, int.class);
        try {
            Method method = bench.getClass().getMethod(name, types);
            return String.valueOf(method.invoke(bench, Arrays.stream(values).boxed().toArray()));
        } catch (InvocationTargetException e) {
            return "throws." + e.getCause().getClass().getSimpleName();
        } catch (ReflectiveOperationException e) {
            throw new IllegalStateException(e);
        }
    }

    static String describe(String name, int... values) {
        return name + Arrays.toString(values);
    }
}
