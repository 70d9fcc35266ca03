import java.lang.reflect.InvocationTargetException;
import java.lang.reflect.Method;
import java.util.ArrayList;
import java.util.Arrays;
import java.util.Comparator;
import java.util.List;

/** Runs tests of single sentences: each of them starts with a new object, and is named by its promise's number. */
final class Edges extends Asked {
    static final Class<?>[] ALL = {
        TermsEdgeTest.class, HouseEdgeTest.class, LetEdgeTest.class, ShutEdgeTest.class, HangingsEdgeTest.class,
        CreaksEdgeTest.class, KeptEdgeTest.class
    };

    private Edges() {
    }

    static List<Method> testsOf(Class<?> edges) {
        List<Method> tests = new ArrayList<>();
        for (Method m : edges.getDeclaredMethods()) {
            if (m.isAnnotationPresent(Says.class)) {
                tests.add(m);
            }
        }
        tests.sort(Comparator.comparing(Method::getName));
        return tests;
    }

    static void run(Class<?> edges) {
        for (Method test : testsOf(edges)) {
            runOne(test);
        }
        tellResult(edges.getSimpleName());
    }

    static void runOne(Method test) {
        Says says = test.getAnnotation(Says.class);
        about = test.getName() + " (" + Arrays.toString(says.text()) + ")";
        int before = asked;
        fresh();
        try {
            test.invoke(null);
        } catch (InvocationTargetException e) {
            tellWrong("threw " + e.getCause());
        } catch (IllegalAccessException e) {
            tellWrong("can't be run: " + e);
        }
        if (asked == before) {
            tellWrong("asks nothing");
        }
    }
}
