import java.io.IOException;
import java.io.OutputStream;
import java.io.PrintStream;
import java.lang.reflect.Method;
import java.net.URL;
import java.net.URLClassLoader;
import java.nio.file.Files;
import java.nio.file.Path;
import java.util.ArrayList;
import java.util.HashSet;
import java.util.List;
import java.util.Set;
import java.util.concurrent.Callable;
import java.util.concurrent.ExecutorService;
import java.util.concurrent.Executors;
import java.util.concurrent.Future;
import java.util.concurrent.TimeUnit;
import java.util.concurrent.TimeoutException;
import javax.tools.JavaCompiler;
import javax.tools.ToolProvider;

/**
 * Breaks the class in one place at a time, as src/test/mutants.txt says, and looks whether the test of EdgesTest that
 * stands for the broken sentence fails. Arguments: the directory of the compiled tests, one to work in.
 */
public final class Mutants {
    private static final Path SOURCE = Path.of("src", "main", "java", "PullThePlug.java");
    private static final Path LIST = Path.of("src", "test", "mutants.txt");
    private static final PrintStream OUT = System.out;

    /** A test's name, where to look from (or nothing), what stands there, what is put in its place. */
    private record Mutant(int line, String test, String from, String old, String put) { }

    public static void main(String[] args) throws Exception {
        List<Mutant> mutants = read();
        System.setOut(new PrintStream(OutputStream.nullOutputStream()));
        ExecutorService pool = Executors.newFixedThreadPool(Runtime.getRuntime().availableProcessors());
        String source = Files.readString(SOURCE);
        List<Future<String>> faults = new ArrayList<>();
        for (Mutant m : mutants) {
            faults.add(pool.submit((Callable<String>) () -> faultOf(m, source, Path.of(args[0]), Path.of(args[1]))));
        }
        int wrong = 0;
        for (Future<String> f : faults) {
            if (!f.get().isEmpty()) {
                wrong++;
                OUT.println(f.get());
            }
        }
        wrong += tellUntouched(mutants);
        OUT.println("Mutants: " + mutants.size() + " ways to break the class, " + wrong + " faults");
        // Tests that never end in a broken class may still be running.
        Runtime.getRuntime().halt(wrong == 0 ? 0 : 1);
    }

    private static int tellUntouched(List<Mutant> mutants) {
        Set<String> touched = new HashSet<>();
        for (Mutant m : mutants) {
            touched.add(m.test);
        }
        int wrong = 0;
        for (Method test : EdgesTest.tests()) {
            if (!touched.contains(test.getName())) {
                wrong++;
                OUT.println("nothing breaks " + test.getName());
            }
        }
        return wrong;
    }

    private static List<Mutant> read() throws IOException {
        List<Mutant> all = new ArrayList<>();
        List<String> lines = Files.readAllLines(LIST);
        String test = "";
        String from = "";
        String old = "";
        for (int i = 0; i < lines.size(); i++) {
            String line = lines.get(i);
            if (line.startsWith("@ ")) {
                from = line.substring(2);
            } else if (line.startsWith("- ")) {
                old = line.substring(2);
            } else if (line.startsWith("+")) {
                all.add(new Mutant(i + 1, test, from, old, line.length() > 2 ? line.substring(2) : ""));
            } else if (!line.isBlank() && !line.startsWith("#")) {
                test = line;
                from = "";
            }
        }
        return all;
    }

    /** What is wrong with a mutant; nothing, if its test fails as it should. */
    private static String faultOf(Mutant m, String source, Path tests, Path work) throws Exception {
        String name = "line " + m.line + ", " + m.test + ", " + m.old + " => " + m.put + ": ";
        int from = source.indexOf(m.from);
        int at = source.indexOf(m.old, Math.max(0, from));
        if (from < 0 || at < 0) {
            return name + "there is no such place";
        }
        Path dir = Files.createDirectories(work.resolve("m" + m.line));
        Path file = dir.resolve("PullThePlug.java");
        Files.writeString(file, source.substring(0, at) + m.put + source.substring(at + m.old.length()));
        JavaCompiler javac = ToolProvider.getSystemJavaCompiler();
        if (javac.run(null, OutputStream.nullOutputStream(), OutputStream.nullOutputStream(), "-nowarn", "-proc:none",
            "-d", dir.toString(), file.toString()) != 0) {
            return name + "it does not compile";
        }
        return wrongOf(m.test, dir, tests) > 0 ? "" : name + "the test does not fail";
    }

    private static int wrongOf(String test, Path broken, Path tests) throws Exception {
        ExecutorService one = Executors.newSingleThreadExecutor();
        URL[] urls = {broken.toUri().toURL(), tests.toUri().toURL()};
        try (URLClassLoader loader = new URLClassLoader(urls, ClassLoader.getPlatformClassLoader())) {
            Method m = loader.loadClass("EdgesTest").getDeclaredMethod("wrongOf", String.class);
            m.setAccessible(true);
            Future<Integer> wrong = one.submit(() -> (Integer) m.invoke(null, test));
            return wrong.get(60, TimeUnit.SECONDS);
        } catch (TimeoutException e) {
            return 1;
        } finally {
            one.shutdown();
        }
    }
}
