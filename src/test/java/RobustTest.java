import java.lang.reflect.InvocationTargetException;
import java.lang.reflect.Method;
import java.lang.reflect.Modifier;
import java.util.ArrayList;
import java.util.Arrays;
import java.util.List;
import java.util.NoSuchElementException;
import java.util.Set;
import java.util.TreeSet;

/** Every call with every odd number in many states: nothing else is thrown, refused calls and questions change nothing. */
public final class RobustTest {
    private static final int[] NUMBERS = {Integer.MIN_VALUE, -2, -1, 0, 1, 2, 5, 6, 7, 9, 10, 12, 20, 21, 40, 41, 60, 61,
        63, 64, 99, 100, 999, 1000, Integer.MAX_VALUE};
    private static final int[] FEWER = {Integer.MIN_VALUE, -1, 0, 1, 3, 6, 9, 40, 60, 99, 1000, Integer.MAX_VALUE};
    private static final Set<String> DOING = new TreeSet<>(Arrays.asList("sign", "end", "lakes", "rule", "sheet", "days",
        "pulls", "stops", "combs", "taps", "gives", "year", "undo", "ring", "washes", "keep", "again"));
    private static final Set<String> READING = new TreeSet<>(Arrays.asList("lakes", "rule", "year", "heirs", "law"));
    private static final Check check = new Check();

    public static void main(String[] args) throws IllegalAccessException {
        for (int state = 0; state < 8; state++) {
            for (Method m : PullThePlug.class.getDeclaredMethods()) {
                if (Modifier.isPublic(m.getModifiers())) {
                    for (int[] numbers : arguments(m.getParameterCount())) {
                        call(made(state), m, numbers);
                    }
                }
            }
        }
        check.finish("RobustTest");
    }

    private static PullThePlug made(int state) {
        PullThePlug x = new PullThePlug();
        if (state == 1) {
            Check.lakes(x, "0100a-");
        } else if (state > 1) {
            Check.lakes(x, state % 2 == 0 ? "9990a-;0500b0;0500c1;0500d2;0500a3;0509b4" : "3020a-;1201b0;2010a0");
        }
        if (state > 3) {
            Check.rule(x, state > 5 ? "-(999*999*999)/(n-k)*l+(l<b)" : "");
            Check.year(x, "p0p1p2n3t09g0cs1");
            x.days(3);
            x.keep(1);
            for (int i = 0; i < 10; i++) {
                x.ring(i % 3, i, 5);
            }
            x.later(0, 1);
        }
        String[] texts = {"", "x", "abc", "(l+1)/2", "p1n1", "1000a-", "ab", "l<b<h"};
        Check.tell(x, texts[state]);
        return x;
    }

    private static List<int[]> arguments(int many) {
        List<int[]> all = new ArrayList<>();
        all.add(new int[0]);
        for (int i = 0; i < many; i++) {
            List<int[]> longer = new ArrayList<>();
            for (int[] a : all) {
                for (int v : many < 3 ? NUMBERS : FEWER) {
                    int[] b = Arrays.copyOf(a, i + 1);
                    b[i] = v;
                    longer.add(b);
                }
            }
            all = many < 4 || i < 2 ? longer : longer.subList(0, Math.min(longer.size(), 4000));
        }
        return all;
    }

    private static void call(PullThePlug x, Method m, int[] numbers) throws IllegalAccessException {
        String name = m.getName() + Arrays.toString(numbers);
        List<Long> ahead = Check.seen(x);
        Object[] boxed = new Object[numbers.length];
        for (int i = 0; i < numbers.length; i++) {
            boxed[i] = numbers[i];
        }
        Object answer;
        try {
            answer = m.invoke(x, boxed);
        } catch (InvocationTargetException e) {
            boolean may = m.getName().equals("lake") || m.getName().equals("row");
            check.due(name + " may throw", may && e.getCause() instanceof NoSuchElementException, true);
            answer = -1;
        }
        List<Long> behind = Check.seen(x);
        boolean refused = answer.equals(-1) || answer.equals(false);
        boolean reads = READING.contains(m.getName());
        if (reads) {
            check.due(name + " empties THE TEXT", x.count(11), 0);
            ahead.set(0, 0L);
        }
        if (refused && !m.getName().equals("lake") && !m.getName().equals("row")) {
            check.due(name + " changes nothing", ahead.equals(behind), true);
        }
        if (!DOING.contains(m.getName())) {
            List<Long> a = ahead.subList(0, ahead.size() - 10);
            List<Long> b = behind.subList(0, behind.size() - 10);
            check.due(name + " is a question", a.equals(b), true);
        }
    }
}
