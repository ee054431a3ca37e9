import java.lang.reflect.InvocationTargetException;
import java.lang.reflect.Method;
import java.util.ArrayList;
import java.util.Comparator;
import java.util.List;

/**
 * The boundary cases of a test: each is a static method whose name begins with the promise's number (p07_..) or with the
 * word terms (terms_..). They are found by their names, so that none is left out of a run.
 */
final class Cases {
    private Cases() {
    }

    static List<Method> of(Class<?> test) {
        List<Method> cases = new ArrayList<>();
        for (Method method : test.getDeclaredMethods()) {
            if (method.getName().matches("(p[0-9][0-9]|terms)_.*") && method.getParameterCount() == 0) {
                cases.add(method);
            }
        }
        cases.sort(Comparator.comparing(Method::getName));
        return cases;
    }

    static void runAll(Class<?> test, Due due) throws IllegalAccessException {
        for (Method method : of(test)) {
            due.begin(method.getName());
            method.setAccessible(true);
            try {
                method.invoke(null);
            } catch (InvocationTargetException e) {
                due.tellWrong("threw " + e.getCause());
            }
        }
        due.end(test.getSimpleName() + ", " + of(test).size() + " cases");
    }
}
