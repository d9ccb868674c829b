import java.util.NoSuchElementException;

/** What the tests share: telling texts, and counting answers that are not due. */
final class Check {
    static final long THROWS = Long.MIN_VALUE;
    private int right;
    private int wrong;

    void due(String what, long got, long want) {
        if (got == want) {
            right++;
        } else {
            wrong++;
            System.out.println(what + " answered " + show(got) + ", due is " + show(want));
        }
    }

    void due(String what, boolean got, boolean want) {
        due(what, got ? 1 : 0, want ? 1 : 0);
    }

    /** The answer of a call and the whole ROW behind it. */
    void due(String what, PullThePlug x, long got, long want, long... row) {
        due(what, got, want);
        due(what + ", numbers of the ROW", x.count(10), row.length);
        for (int i = 0; i < row.length; i++) {
            due(what + ", row(" + i + ")", rowOf(x, i), row[i]);
        }
    }

    void finish(String name) {
        System.out.println(name + ": " + right + " answers as due, " + wrong + " not");
        System.exit(wrong == 0 && right > 0 ? 0 : 1);
    }

    private static String show(long v) {
        return v == THROWS ? "throws.NoSuchElementException" : Long.toString(v);
    }

    static long rowOf(PullThePlug x, int i) {
        try {
            return x.row(i);
        } catch (NoSuchElementException e) {
            return THROWS;
        }
    }

    static long lakeOf(PullThePlug x, int lake, int what) {
        try {
            return x.lake(lake, what);
        } catch (NoSuchElementException e) {
            return THROWS;
        }
    }

    /** THE TEXT is just this (at most 80 signs). */
    static void tell(PullThePlug x, String text) {
        x.end(0);
        for (int i = 0; i < text.length(); i += 4) {
            int v = 0;
            for (int k = 0; k < 4; k++) {
                v = v << 8 | (i + k < text.length() ? text.charAt(i + k) : 0);
            }
            x.sign(v);
        }
        x.end(text.length());
    }

    static int lakes(PullThePlug x, String text) {
        tell(x, text);
        return x.lakes();
    }

    static int rule(PullThePlug x, String text) {
        tell(x, text);
        return x.rule();
    }

    static int year(PullThePlug x, String text) {
        tell(x, text);
        return x.year();
    }

    static int heirs(PullThePlug x, String text) {
        tell(x, text);
        return x.heirs();
    }

    static int law(PullThePlug x, String text) {
        tell(x, text);
        return x.law();
    }

    static PullThePlug made(String text) {
        PullThePlug x = new PullThePlug();
        lakes(x, text);
        return x;
    }
}
