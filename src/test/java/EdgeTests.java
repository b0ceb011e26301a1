import java.lang.reflect.InvocationTargetException;
import java.lang.reflect.Method;
import java.lang.reflect.Modifier;
import java.nio.file.Files;
import java.nio.file.Path;
import java.util.ArrayList;
import java.util.Arrays;
import java.util.Comparator;
import java.util.List;

/**
 * Runs the tests of the document's sentences, one method each, and looks that no sentence is without one.
 * The second argument is the document's file.
 */
public final class EdgeTests {
    private static final List<Class<?>> GROUPS = List.of(
            TermsEdges.class, RefusalEdges.class, CircuitEdges.class, TickEdges.class, LeaningEdges.class,
            LettingGoEdges.class);
    private static final Checks CHECKS = new Checks("EdgeTests");
    private static String test = "";

    public static void main(String[] args) throws Exception {
        Sentences sentences = new Sentences(Files.readString(Path.of(args[1])));
        int tests = 0;
        for (Class<?> group : GROUPS) {
            for (Method method : testsOf(group)) {
                run(method, sentences);
                tests++;
            }
        }
        for (int promise = 0; promise <= Sentences.PROMISES; promise++) {
            List<String> open = sentences.open(promise);
            CHECKS.holds("promise " + promise + " has words that no test holds: " + open, open.isEmpty());
        }
        System.out.println("EdgeTests: " + tests + " tests of sentences");
        CHECKS.end();
    }

    static void due(String call, long got, long want) {
        CHECKS.due(test + ": " + call, got, want);
    }

    private static List<Method> testsOf(Class<?> group) {
        List<Method> found = new ArrayList<>();
        for (Method method : group.getDeclaredMethods()) {
            if (!Modifier.isPrivate(method.getModifiers()) && !method.isSynthetic()) {
                found.add(method);
            }
        }
        found.sort(Comparator.comparing(Method::getName));
        return found;
    }

    private static void run(Method method, Sentences sentences) throws IllegalAccessException {
        Holds holds = method.getAnnotation(Holds.class);
        CHECKS.holds(method + " tells what it holds", holds != null);
        if (holds == null) {
            return;
        }
        test = "promise " + holds.promise() + ", " + method.getName() + " " + Arrays.toString(holds.words());
        for (String words : holds.words()) {
            CHECKS.holds(test + ": the document says \"" + words + "\"", sentences.hold(holds.promise(), words));
        }
        int before = CHECKS.made();
        try {
            method.invoke(null);
        } catch (InvocationTargetException e) {
            CHECKS.holds(test + ": " + e.getCause(), false);
        }
        CHECKS.holds(test + ": asks for an answer", CHECKS.made() > before);
    }
}
