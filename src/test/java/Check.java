import java.util.ArrayList;
import java.util.List;
import java.util.NoSuchElementException;
import java.util.function.IntSupplier;

/** What the tests share: telling texts, and counting answers that are not due. */
final class Check {
    static final long THROWS = Long.MIN_VALUE;
    private int right;
    private int wrong;
    private String where = "";

    /** What stands ahead of each answer that is not due from now on. */
    void at(String place) {
        where = place;
    }

    int wrong() {
        return wrong;
    }

    int all() {
        return right + wrong;
    }

    void due(String what, long got, long want) {
        if (got == want) {
            right++;
        } else {
            wrong++;
            System.out.println(where + what + " answered " + show(got) + ", due is " + show(want));
        }
    }

    void due(String what, boolean got, boolean want) {
        due(what, got ? 1 : 0, want ? 1 : 0);
    }

    /** The answer of a call and the whole ROW behind it. */
    void due(String what, PullThePlug x, long got, long want, long... row) {
        due(what, got, want);
        due(what + ", numbers of the ROW", x.count(10), row.length);
        for (int i = 0; i < row.length; i++) {
            due(what + ", row(" + i + ")", rowOf(x, i), row[i]);
        }
    }

    /** LEVELS of LAKES 0, 1, .. */
    void levels(String what, PullThePlug x, long... want) {
        for (int i = 0; i < want.length; i++) {
            due(what + ", LEVEL of " + i, lakeOf(x, i, 5), want[i]);
        }
    }

    /** A call that answers so and changes nothing, the ROW neither (THE TEXT may be gone). */
    void idle(String what, PullThePlug x, IntSupplier call, long want) {
        List<Long> ahead = seen(x);
        due(what, call.getAsInt(), want);
        List<Long> behind = seen(x);
        for (int i = 1; i < ahead.size(); i++) {
            due(what + ", what is seen of it at " + i, behind.get(i), ahead.get(i));
        }
    }

    void finish(String name) {
        System.out.println(name + ": " + right + " answers as due, " + wrong + " not");
        System.exit(wrong == 0 && right > 0 ? 0 : 1);
    }

    private static String show(long v) {
        return v == THROWS ? "throws.NoSuchElementException" : Long.toString(v);
    }

    /** All that can be seen without a change: first THE TEXT's length, last the ROW (10 numbers). */
    static List<Long> seen(PullThePlug x) {
        List<Long> all = new ArrayList<>();
        all.add((long) x.count(11));
        for (int what = 0; what <= 9; what++) {
            all.add((long) x.count(what));
        }
        all.add((long) x.count(12));
        for (int lake = 0; lake < 6; lake++) {
            for (int what = 0; what < 9; what++) {
                all.add(lakeOf(x, lake, what));
            }
        }
        all.add((long) x.count(10));
        for (int i = 0; i < 9; i++) {
            all.add(rowOf(x, i));
        }
        return all;
    }

    static long rowOf(PullThePlug x, int i) {
        try {
            return x.row(i);
        } catch (NoSuchElementException e) {
            return THROWS;
        }
    }

    static long lakeOf(PullThePlug x, int lake, int what) {
        try {
            return x.lake(lake, what);
        } catch (NoSuchElementException e) {
            return THROWS;
        }
    }

    /** THE TEXT is just this (at most 80 signs). */
    static void tell(PullThePlug x, String text) {
        x.end(0);
        for (int i = 0; i < text.length(); i += 4) {
            int v = 0;
            for (int k = 0; k < 4; k++) {
                v = v << 8 | (i + k < text.length() ? text.charAt(i + k) : 0);
            }
            x.sign(v);
        }
        x.end(text.length());
    }

    static int lakes(PullThePlug x, String text) {
        tell(x, text);
        return x.lakes();
    }

    static int rule(PullThePlug x, String text) {
        tell(x, text);
        return x.rule();
    }

    static int year(PullThePlug x, String text) {
        tell(x, text);
        return x.year();
    }

    static int heirs(PullThePlug x, String text) {
        tell(x, text);
        return x.heirs();
    }

    static int law(PullThePlug x, String text) {
        tell(x, text);
        return x.law();
    }

    static PullThePlug made(String text) {
        PullThePlug x = new PullThePlug();
        lakes(x, text);
        return x;
    }

    /** As made(), with LEVELS f, f + step, .. */
    static PullThePlug made(String text, int f, int step) {
        PullThePlug x = made(text);
        x.sheet(2, 6, f, step);
        return x;
    }

    /** As made(), by a rule, and with the plugs of a set of LAKES out. */
    static PullThePlug made(String text, String rule, int out) {
        PullThePlug x = made(text);
        rule(x, rule);
        for (int i = 0; i < 6; i++) {
            if ((out >> i & 1) == 1) {
                x.pulls(i);
            }
        }
        return x;
    }
}
