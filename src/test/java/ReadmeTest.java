import java.io.IOException;
import java.lang.reflect.Method;
import java.lang.reflect.Modifier;
import java.nio.file.Files;
import java.nio.file.Path;
import java.util.ArrayList;
import java.util.List;
import java.util.regex.Matcher;
import java.util.regex.Pattern;

/** README.md: each call of its example answers what stands behind it, and every call of the face is named. */
public final class ReadmeTest {
    private static final Pattern CALL = Pattern.compile("x\\.(\\w+)\\(([^)]*)\\); *// (-?\\d+|true|false): .*");
    private static final Check check = new Check();

    public static void main(String[] args) throws IOException, ReflectiveOperationException {
        List<String> lines = Files.readAllLines(Path.of("README.md"));
        runExample(lines);
        lookForCalls(String.join("\n", lines));
        check.finish("ReadmeTest");
    }

    private static void runExample(List<String> lines) throws ReflectiveOperationException {
        PullThePlug x = new PullThePlug();
        int calls = 0;
        for (String line : lines) {
            if (line.startsWith("x.")) {
                Matcher call = CALL.matcher(line);
                check.due("README.md, " + line + " has the form of a call with its answer", call.matches(), true);
                if (call.matches()) {
                    Object got = answer(x, call.group(1), call.group(2));
                    check.due("README.md, " + line + " (" + got + ")", got.toString().equals(call.group(3)), true);
                    calls++;
                }
            }
        }
        check.due("README.md has an example", calls > 0, true);
    }

    private static Object answer(PullThePlug x, String name, String arguments) throws ReflectiveOperationException {
        List<Object> numbers = new ArrayList<>();
        for (String number : arguments.split(", *")) {
            if (!number.isEmpty()) {
                numbers.add(Integer.decode(number));
            }
        }
        Class<?>[] types = new Class<?>[numbers.size()];
        java.util.Arrays.fill(types, int.class);
        return PullThePlug.class.getMethod(name, types).invoke(x, numbers.toArray());
    }

    private static void lookForCalls(String text) {
        for (Method m : PullThePlug.class.getDeclaredMethods()) {
            if (Modifier.isPublic(m.getModifiers())) {
                check.due("README.md names " + m.getName(), text.contains("`" + m.getName() + "`"), true);
            }
        }
    }
}
