import java.util.Random;

/** Runs of calls drawn by a seed, answered by the class and by the model alike. */
public final class ModelTest {
    private static final Check check = new Check();
    private static final int[] ODD = {-1, Integer.MIN_VALUE, Integer.MAX_VALUE, 6, 7, 10, 21, 41, 61, 64, 100, 1000, -2};
    private static Random random;

    public static void main(String[] args) {
        int runs = args.length > 0 ? Integer.parseInt(args[0]) : 400;
        int from = args.length > 1 ? Integer.parseInt(args[1]) : 0;
        for (int seed = from; seed < from + runs; seed++) {
            random = new Random(seed);
            run(seed);
        }
        check.finish("ModelTest");
    }

    private static void run(int seed) {
        PullThePlug x = new PullThePlug();
        Model m = new Model();
        int calls = 20 + random.nextInt(150);
        boolean late = random.nextInt(8) == 0;
        for (int i = 0; i < calls; i++) {
            if (i == 0 && !late) {
                both(x, m, lines(m));
                check.due("seed " + seed + " lakes", x.lakes(), m.lakes());
            }
            String call = "seed " + seed + " call " + i + " ";
            step(call, x, m, random.nextInt(46));
            compare(call, x, m);
        }
    }

    private static void compare(String call, PullThePlug x, Model m) {
        for (int what = 0; what <= 12; what++) {
            check.due(call + "count(" + what + ")", x.count(what), m.count(what));
        }
        for (int i = 0; i < m.count(10); i++) {
            check.due(call + "row(" + i + ")", Check.rowOf(x, i), m.row(i));
        }
        int lake = random.nextInt(6);
        for (int what = 0; what < 9; what++) {
            check.due(call + "lake(" + lake + ", " + what + ")", Check.lakeOf(x, lake, what), m.lake(lake, what));
        }
    }

    /** A number that is mostly from 0 to most, seldom odd. */
    private static int number(int most) {
        return random.nextInt(25) == 0 ? ODD[random.nextInt(ODD.length)] : random.nextInt(most + 1);
    }

    private static int lakeOf(Model m) {
        return number(Math.max(0, m.count(0) - 1));
    }

    private static void both(PullThePlug x, Model m, String text) {
        String told = text.length() > 80 ? text.substring(0, 80) : text;
        if (random.nextInt(10) == 0 && !told.isEmpty()) {
            told = spoilt(told);
        }
        Check.tell(x, told);
        m.text = told;
    }

    private static String spoilt(String t) {
        int at = random.nextInt(t.length());
        String signs = "0123456789abcdlbhtkn+-*/<>=();nps" + (char) 200;
        char c = signs.charAt(random.nextInt(signs.length()));
        switch (random.nextInt(3)) {
            case 0:
                return t.substring(0, at);
            case 1:
                return t.substring(0, at) + c + t.substring(at + 1);
            default:
                String longer = t.substring(0, at) + c + t.substring(at);
                return longer.length() > 80 ? longer.substring(0, 80) : longer;
        }
    }

    private static String lines(Model m) {
        StringBuilder t = new StringBuilder();
        int have = m.count(0);
        int lines = 1 + random.nextInt(Math.max(1, 7 - have));
        for (int i = 0; i < lines; i++) {
            t.append(i > 0 ? ";" : "");
            t.append(random.nextInt(random.nextBoolean() ? 10 : 3)).append(1 + random.nextInt(9));
            t.append(random.nextInt(random.nextBoolean() ? 10 : 2)).append(random.nextInt(random.nextBoolean() ? 10 : 2));
            t.append((char) ('a' + random.nextInt(4)));
            t.append(have + i == 0 || random.nextInt(4) == 0 ? "-" : "" + random.nextInt(have + i));
        }
        return t.toString();
    }

    private static String expression(int deep) {
        String[] ends = {"l", "b", "h", "t", "k", "n", "l", "l", "2", "3", "10", "999", "0"};
        int kind = deep <= 0 ? 0 : random.nextInt(7);
        String one = ends[random.nextInt(ends.length)];
        switch (kind) {
            case 1:
                return "-" + one;
            case 2:
                return "(" + expression(deep - 1) + ")";
            case 3:
                return expression(deep - 1) + "<>=".charAt(random.nextInt(3)) + one;
            case 4:
            case 5:
            case 6:
                return expression(deep - 1) + "+-*/".charAt(random.nextInt(4)) + expression(deep - 1);
            default:
                return one;
        }
    }

    private static String acts() {
        StringBuilder t = new StringBuilder();
        int many = random.nextInt(10) == 0 ? 30 : random.nextInt(8);
        for (int i = 0; i < many; i++) {
            char c = "nnpsctg".charAt(random.nextInt(7));
            t.append(c).append(random.nextInt(c == 'n' ? 10 : 4));
            if (c == 't') {
                t.append(random.nextInt(10));
            } else if (c == 'g') {
                t.append((char) ('a' + random.nextInt(4)));
            }
        }
        return t.toString();
    }

    private static String kings() {
        StringBuilder t = new StringBuilder();
        for (int i = random.nextInt(8); i > 0; i--) {
            t.append((char) ('a' + random.nextInt(4)));
        }
        return t.toString();
    }

    private static void step(String call, PullThePlug x, Model m, int which) {
        if (which < 10) {
            stepText(call, x, m, which);
        } else if (which < 20) {
            stepAct(call, x, m, which);
        } else if (which < 30) {
            stepLater(call, x, m, which);
        } else if (which < 38) {
            stepPlugs(call, x, m, which);
        } else {
            stepOther(call, x, m, which);
        }
    }

    private static void stepText(String call, PullThePlug x, Model m, int which) {
        int a = random.nextInt();
        int b = number(12);
        switch (which) {
            case 0:
                check.due(call + "sign(" + a + ")", x.sign(a), m.sign(a));
                return;
            case 1:
                check.due(call + "end(" + b + ")", x.end(b), m.end(b));
                return;
            case 2:
                both(x, m, random.nextInt(6) > 0 ? "" : lines(m));
                check.due(call + "lakes " + m.text, x.lakes(), m.lakes());
                return;
            case 3:
            case 4:
                both(x, m, random.nextInt(4) == 0 ? "" : expression(4));
                check.due(call + "rule " + m.text, x.rule(), m.rule());
                return;
            case 5:
                int kind = number(3);
                int n = number(6);
                int f = random.nextBoolean() ? number(99) : a;
                int step = random.nextBoolean() ? random.nextInt(41) - 20 : random.nextInt();
                check.due(call + "sheet", x.sheet(kind, n, f, step), m.sheet(kind, n, f, step));
                return;
            case 6:
            case 7:
                both(x, m, acts());
                check.due(call + "year " + m.text, x.year(), m.year());
                return;
            case 8:
                both(x, m, kings());
                check.due(call + "heirs " + m.text, x.heirs(), m.heirs());
                return;
            default:
                both(x, m, random.nextInt(4) == 0 ? "" : expression(4));
                check.due(call + "law " + m.text, x.law(), m.law());
        }
    }

    private static void stepAct(String call, PullThePlug x, Model m, int which) {
        int lake = lakeOf(m);
        int v = number(9);
        int king = number(3);
        int n = random.nextInt(3) == 0 ? number(60) : number(4);
        switch (which) {
            case 10:
            case 11:
                check.due(call + "days(" + n + ")", x.days(n), m.acted("n" + n));
                return;
            case 12:
            case 13:
                check.due(call + "pulls(" + lake + ")", x.pulls(lake), m.acted("p" + lake));
                return;
            case 14:
                check.due(call + "stops(" + lake + ")", x.stops(lake), m.acted("s" + lake));
                return;
            case 15:
                check.due(call + "combs(" + lake + ")", x.combs(lake), m.acted("c" + lake));
                return;
            case 16:
                check.due(call + "taps(" + lake + ", " + v + ")", x.taps(lake, v), m.acted("t" + lake + "," + v));
                return;
            case 17:
                check.due(call + "gives(" + lake + ", " + king + ")", x.gives(lake, king), m.acted("g" + lake + "," + king));
                return;
            default:
                check.due(call + "undo()", x.undo(), m.undo());
        }
    }

    private static void stepLater(String call, PullThePlug x, Model m, int which) {
        int lake = lakeOf(m);
        int other = lakeOf(m);
        int n = number(99);
        int v = number(99);
        switch (which) {
            case 20:
                check.due(call + "later(" + lake + ", " + n + ")", x.later(lake, n), m.later(lake, n));
                return;
            case 21:
                check.due(call + "dries(" + lake + ")", x.dries(lake), m.dries(lake));
                return;
            case 22:
                check.due(call + "brims(" + lake + ")", x.brims(lake), m.brims(lake));
                return;
            case 23:
                check.due(call + "marks(" + lake + ", " + n + ")", x.marks(lake, n), m.marks(lake, n));
                return;
            case 24:
                int king = number(3);
                check.due(call + "realm(" + king + ")", x.realm(king), m.realm(king));
                return;
            case 25:
                check.due(call + "course(" + lake + ")", x.course(lake), m.course(lake));
                check.due(call + "basin(" + lake + ")", x.basin(lake), m.basin(lake));
                return;
            case 26:
                check.due(call + "order(" + n + ")", x.order(n), m.order(n));
                return;
            case 27:
                check.due(call + "meets(" + lake + ", " + other + ")", x.meets(lake, other), m.meets(lake, other));
                return;
            case 28:
                check.due(call + "richest(" + n + ")", x.richest(n), m.richest(n));
                return;
            default:
                check.due(call + "swims", x.swims(lake, v, n), m.swims(lake, v, n));
        }
    }

    private static void stepPlugs(String call, PullThePlug x, Model m, int which) {
        int lake = lakeOf(m);
        int n = number(40);
        int v = number(99);
        switch (which) {
            case 30:
                check.due(call + "lets(" + lake + ", " + n + ")", x.lets(lake, n), m.lets(lake, n));
                return;
            case 31:
                int some = number((1 << m.count(0)) - 1);
                some = random.nextBoolean() ? some & random.nextInt(64) & random.nextInt(64) : some;
                check.due(call + "just(" + some + ", " + n + ")", x.just(some, n), m.just(some, n));
                return;
            case 32:
                int many = number(6);
                check.due(call + "fills(" + many + ", " + n + ")", x.fills(many, n), m.fills(many, n));
                return;
            case 33:
                check.due(call + "needs(" + lake + ", " + v + ", " + n + ")", x.needs(lake, v, n), m.needs(lake, v, n));
                return;
            case 34:
                check.due(call + "crosses(" + n + ")", x.crosses(n), m.crosses(n));
                return;
            case 35:
                int day = number(20);
                int level = random.nextInt(4) == 0 || lake < 0 || lake >= m.count(0) || day < 0 || day > 20
                    ? v : truth(m, lake, day);
                check.due(call + "ring", x.ring(lake, day, level), m.ring(lake, day, level));
                return;
            case 36:
                if (random.nextInt(3) == 0) {
                    check.due(call + "washes()", x.washes(), m.washes());
                }
                check.due(call + "leaks()", x.leaks(), m.leaks());
                return;
            default:
                check.due(call + "reads()", x.reads(), m.reads());
        }
    }

    /** LEVEL as it will be, mostly with a leak more. */
    private static int truth(Model m, int lake, int day) {
        Model.State s = m.now.copy();
        s.lakes.get(random.nextInt(s.lakes.size())).leak += random.nextInt(5);
        return s.in(m.rule, day).lakes.get(lake).level;
    }

    private static void stepOther(String call, PullThePlug x, Model m, int which) {
        int lake = lakeOf(m);
        int other = lakeOf(m);
        int king = number(3);
        int i = number(1);
        switch (which) {
            case 38:
                int some = number((1 << m.count(0)) - 1);
                check.due(call + "threat(" + some + ")", x.threat(some), m.threat(some));
                return;
            case 39:
                int q = random.nextBoolean() ? number(200) : number(999);
                check.due(call + "treaty(" + q + ")", x.treaty(q), m.treaty(q));
                return;
            case 40:
                check.due(call + "wants(" + king + ")", x.wants(king), m.wants(king));
                check.due(call + "evens()", x.evens(), m.evens());
                return;
            case 41:
                check.due(call + "feared()", x.feared(), m.feared());
                return;
            case 42:
                int n = number(10);
                check.due(call + "duck", x.duck(lake, other, n), m.duck(lake, other, n));
                return;
            case 43:
                int v = number(20);
                check.due(call + "rests(" + v + ")", x.rests(v), m.rests(v));
                int days = number(60);
                int takes = number(9);
                check.due(call + "spoon", x.spoon(lake, takes, days), m.spoon(lake, takes, days));
                return;
            case 44:
                int seed = random.nextInt();
                int times = number(60);
                check.due(call + "years(" + seed + ", " + times + ")", x.years(seed, times), m.years(seed, times));
                return;
            default:
                check.due(call + "keep(" + i + ")", x.keep(i), m.keep(i));
                int j = number(1);
                if (random.nextInt(3) == 0) {
                    check.due(call + "again(" + j + ")", x.again(j), m.again(j));
                }
        }
    }
}
