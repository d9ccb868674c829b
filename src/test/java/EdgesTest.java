import java.io.IOException;
import java.lang.reflect.InvocationTargetException;
import java.lang.reflect.Method;
import java.nio.file.Files;
import java.nio.file.Path;
import java.util.ArrayList;
import java.util.Comparator;
import java.util.HashSet;
import java.util.List;
import java.util.Set;

/** One test for each sentence of the document that names a boundary case; each says which one it stands for. */
public final class EdgesTest {
    private static final Class<?>[] GROUPS = {EdgesTerms.class, EdgesRule.class, EdgesLakes.class, EdgesDays.class,
        EdgesLater.class, EdgesPlugs.class, EdgesLeaks.class, EdgesThreats.class, EdgesYears.class, EdgesKept.class};
    private static final int PROMISES = 50;

    public static void main(String[] args) throws IOException {
        Check check = new Check();
        List<Method> tests = tests();
        for (Method test : tests) {
            run(check, test);
        }
        checkNames(check, tests);
        checkWords(check, tests, Path.of("..", "shared", "DOC.md"));
        check.at("");
        System.out.println("EdgesTest: " + tests.size() + " sentences");
        check.finish("EdgesTest");
    }

    /** How many answers of one test are not due (for Mutants). */
    static int wrongOf(String name) {
        Check check = new Check();
        for (Method test : tests()) {
            if (test.getName().equals(name)) {
                run(check, test);
                return check.wrong();
            }
        }
        throw new IllegalArgumentException("there is no test " + name);
    }

    static List<Method> tests() {
        List<Method> all = new ArrayList<>();
        for (Class<?> group : GROUPS) {
            for (Method m : group.getDeclaredMethods()) {
                if (m.isAnnotationPresent(Says.class)) {
                    all.add(m);
                }
            }
        }
        all.sort(Comparator.comparingInt((Method m) -> m.getAnnotation(Says.class).promise()).thenComparing(Method::getName));
        return all;
    }

    private static void run(Check check, Method test) {
        Says says = test.getAnnotation(Says.class);
        check.at("promise " + says.promise() + ", \"" + says.words() + "\" (" + test.getName() + "): ");
        int ahead = check.all();
        try {
            test.setAccessible(true);
            test.invoke(null, check);
        } catch (InvocationTargetException | IllegalAccessException e) {
            check.due("ended by " + e.getCause(), 1, 0);
        }
        check.due("asks something", check.all() > ahead, true);
    }

    /** A name stands for one test alone, and no promise is left out. */
    private static void checkNames(Check check, List<Method> tests) {
        check.at("");
        Set<String> names = new HashSet<>();
        Set<Integer> promises = new HashSet<>();
        for (Method test : tests) {
            check.due(test.getName() + " is the only one of its name", names.add(test.getName()), true);
            promises.add(test.getAnnotation(Says.class).promise());
        }
        for (int i = 0; i <= PROMISES; i++) {
            check.due("promise " + i + " has a test", promises.contains(i), true);
        }
    }

    /** The words that a test quotes stand in the document, in the section of its promise. */
    private static void checkWords(Check check, List<Method> tests, Path file) throws IOException {
        if (!Files.exists(file)) {
            System.out.println("EdgesTest: no " + file + ", so the quoted words are not looked up");
            return;
        }
        String document = Files.readString(file);
        for (Method test : tests) {
            Says says = test.getAnnotation(Says.class);
            boolean stands = section(document, says.promise()).contains(says.words());
            check.due(test.getName() + " quotes promise " + says.promise(), stands, true);
        }
    }

    static String section(String document, int promise) {
        int from = promise == 0 ? 0 : Math.max(0, document.indexOf("## Promise " + promise + ":"));
        int behind = document.indexOf(promise == 0 ? "## Promise 1:" : "\n## ", from + 1);
        return document.substring(from, behind < 0 ? document.length() : behind);
    }
}
