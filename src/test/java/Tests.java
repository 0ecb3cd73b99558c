import java.lang.reflect.InvocationTargetException;
import java.lang.reflect.Method;
import java.util.ArrayList;
import java.util.List;

/** The tests of a class: its methods whose names begin with "promise" and a promise's number, or with "terms". */
final class Tests {
    private Tests() {
    }

    static List<Method> of(Class<?> tests) {
        List<Method> found = new ArrayList<>();
        for (Method method : tests.getDeclaredMethods()) {
            if (method.getName().matches("(promise\\d\\d|terms)[A-Z].*")) {
                found.add(method);
            }
        }
        found.sort((a, b) -> a.getName().compareTo(b.getName()));
        return found;
    }

    static void run(Class<?> tests) throws ReflectiveOperationException {
        for (Method method : of(tests)) {
            Due.of(method.getName());
            method.setAccessible(true);
            try {
                method.invoke(null);
            } catch (InvocationTargetException e) {
                Due.holds("no throw, but " + e.getCause(), false);
            }
        }
        Due.end(tests.getSimpleName());
    }
}
