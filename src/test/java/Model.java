import java.math.BigInteger;
import java.util.ArrayDeque;
import java.util.ArrayList;
import java.util.Arrays;
import java.util.Deque;
import java.util.HashMap;
import java.util.List;
import java.util.Map;
import java.util.TreeMap;

/** The document read a second time, slowly and in another way: strings, lists, all ways tried. */
final class Model {
    static final class Lake {
        int brim;
        int tap;
        int leak;
        int king;
        int down;
        int level;
        boolean out;
        int hair;

        Lake copy() {
            Lake l = new Lake();
            l.brim = brim;
            l.tap = tap;
            l.leak = leak;
            l.king = king;
            l.down = down;
            l.level = level;
            l.out = out;
            l.hair = hair;
            return l;
        }
    }

    static final class State {
        List<Lake> lakes = new ArrayList<>();
        int day;
        int spilt;
        int dried;

        State copy() {
            State s = new State();
            for (Lake l : lakes) {
                s.lakes.add(l.copy());
            }
            s.day = day;
            s.spilt = spilt;
            s.dried = dried;
            return s;
        }

        int out() {
            int many = 0;
            for (Lake l : lakes) {
                many += l.out ? 1 : 0;
            }
            return many;
        }

        int sum() {
            int sum = 0;
            for (Lake l : lakes) {
                sum += l.level;
            }
            return sum;
        }

        int run(String rule, int i) {
            Lake l = lakes.get(i);
            if (!l.out) {
                return 0;
            }
            int v = new Eval(rule.isEmpty() ? "(l+2)/3-h" : rule, this, l).all();
            return v < 0 ? 0 : v > l.level ? l.level : v;
        }

        void pass(String rule) {
            int[] run = new int[lakes.size()];
            int[] was = new int[lakes.size()];
            for (int i = 0; i < run.length; i++) {
                run[i] = run(rule, i);
                was[i] = lakes.get(i).level;
            }
            for (int i = 0; i < run.length; i++) {
                Lake l = lakes.get(i);
                l.level -= run[i];
                l.level = l.leak > l.level ? 0 : l.level - l.leak;
            }
            for (int i = 0; i < run.length; i++) {
                Lake l = lakes.get(i);
                l.level += l.tap;
                if (l.down >= 0) {
                    lakes.get(l.down).level += run[i];
                }
            }
            for (int i = 0; i < run.length; i++) {
                Lake l = lakes.get(i);
                while (l.level > l.brim) {
                    l.level--;
                    spilt += spilt < 9999 ? 1 : 0;
                }
                if (l.out && l.hair < 9) {
                    l.hair++;
                }
                if (was[i] > 0 && l.level == 0 && dried < 999) {
                    dried++;
                }
            }
            day++;
        }

        State in(String rule, int n) {
            State s = copy();
            for (int i = 0; i < n; i++) {
                s.pass(rule);
            }
            return s;
        }
    }

    /** A value by climbing over how strongly signs bind. */
    static final class Eval {
        final String rule;
        final State s;
        final Lake l;
        int at;

        Eval(String rule, State s, Lake l) {
            this.rule = rule;
            this.s = s;
            this.l = l;
        }

        int all() {
            return climb(0);
        }

        static int bind(char c) {
            return "<>=".indexOf(c) >= 0 ? 1 : "+-".indexOf(c) >= 0 ? 2 : "*/".indexOf(c) >= 0 ? 3 : 0;
        }

        int climb(int least) {
            int left = one();
            while (at < rule.length()) {
                char c = rule.charAt(at);
                int b = bind(c);
                if (b == 0 || b <= least) {
                    break;
                }
                at++;
                int right = climb(b);
                left = join(c, left, right);
            }
            return left;
        }

        static int join(char c, int a, int b) {
            if (c == '+') {
                return (int) ((long) a + b);
            } else if (c == '-') {
                return (int) ((long) a - b);
            } else if (c == '*') {
                return (int) ((long) a * b);
            } else if (c == '/') {
                return b == 0 ? 0 : (int) ((long) a / b);
            }
            return (c == '<' ? a < b : c == '>' ? a > b : a == b) ? 1 : 0;
        }

        int one() {
            char c = rule.charAt(at);
            at++;
            switch (c) {
                case '-':
                    return (int) -(long) one();
                case '(':
                    int v = climb(0);
                    at++;
                    return v;
                case 'l':
                    return l.level;
                case 'b':
                    return l.brim;
                case 'h':
                    return l.hair;
                case 't':
                    return l.tap;
                case 'k':
                    return s.out();
                case 'n':
                    return s.day % 7;
                default:
                    int from = at - 1;
                    while (at < rule.length() && Character.isDigit(rule.charAt(at))) {
                        at++;
                    }
                    return Integer.parseInt(rule.substring(from, at));
            }
        }
    }

    State now = new State();
    String rule = "";
    String text = "";
    List<Long> row = new ArrayList<>();
    Deque<State> past = new ArrayDeque<>();
    State[] kept = new State[2];
    List<int[]> rings = new ArrayList<>();

    private void tell(long... numbers) {
        row = new ArrayList<>();
        for (long v : numbers) {
            row.add(v);
        }
    }

    private boolean none(int lake) {
        return lake < 0 || lake >= now.lakes.size();
    }

    private int size() {
        return now.lakes.size();
    }

    int sign(int v) {
        if (text.length() + 4 > 80) {
            return -1;
        }
        for (int k = 3; k >= 0; k--) {
            text += (char) ((v >> 8 * k) & 0xFF);
        }
        return text.length();
    }

    boolean end(int n) {
        if (n < 0 || n > text.length()) {
            return false;
        }
        text = text.substring(0, n);
        return true;
    }

    private String take() {
        String t = text;
        text = "";
        return t;
    }

    int lakes() {
        String t = take();
        if (t.isEmpty()) {
            return 0;
        }
        List<Lake> more = new ArrayList<>();
        int i = 0;
        while (true) {
            int have = size() + more.size();
            int k = i % 7;
            char c = i < t.length() && i < 41 ? t.charAt(i) : (char) 1000;
            boolean digit = c >= '0' && c <= '9';
            if (k == 6) {
                if (i == t.length()) {
                    break;
                }
                if (c != ';') {
                    return -1 - i;
                }
                i++;
                continue;
            }
            boolean ok;
            if (k == 0) {
                ok = digit && have < 6;
                more.add(new Lake());
            } else if (k == 1) {
                ok = digit && !(c == '0' && t.charAt(i - 1) == '0');
            } else if (k == 4) {
                ok = c >= 'a' && c <= 'd';
            } else if (k == 5) {
                ok = c == '-' || digit && c - '0' < have - 1;
            } else {
                ok = digit;
            }
            if (!ok) {
                return -1 - i;
            }
            Lake l = more.get(more.size() - 1);
            if (k == 0) {
                l.brim = (c - '0') * 10;
            } else if (k == 1) {
                l.brim += c - '0';
                l.level = l.brim;
            } else if (k == 2) {
                l.tap = c - '0';
            } else if (k == 3) {
                l.leak = c - '0';
            } else if (k == 4) {
                l.king = c - 'a';
            } else {
                l.down = c == '-' ? -1 : c - '0';
            }
            i++;
        }
        now.lakes.addAll(more);
        past.clear();
        kept[0] = null;
        kept[1] = null;
        return more.size();
    }

    /** Where a rule can't go on, by what stands open; -1 if it is whole. */
    static int ruleFault(String t) {
        if (t.isEmpty()) {
            return -1;
        }
        List<Boolean> open = new ArrayList<>();
        open.add(false);
        boolean wants = true;
        int digits = 0;
        for (int i = 0; i < t.length(); i++) {
            char c = t.charAt(i);
            int top = open.size() - 1;
            if (i >= 40) {
                return 40;
            }
            if (wants) {
                if (c >= '0' && c <= '9') {
                    digits = 1;
                    wants = false;
                } else if ("lbhtkn".indexOf(c) >= 0) {
                    digits = 3;
                    wants = false;
                } else if (c == '(' && top < 4) {
                    open.add(false);
                } else if (c != '-') {
                    return i;
                }
            } else if (c >= '0' && c <= '9' && digits < 3) {
                digits++;
            } else if ("+-*/".indexOf(c) >= 0) {
                wants = true;
            } else if ("<>=".indexOf(c) >= 0 && !open.get(top)) {
                open.set(top, true);
                wants = true;
            } else if (c == ')' && top > 0) {
                open.remove(top);
                digits = 3;
            } else {
                return i;
            }
        }
        return wants || open.size() > 1 ? t.length() : -1;
    }

    int rule() {
        String t = take();
        int p = ruleFault(t);
        if (p >= 0) {
            return -1 - p;
        }
        rule = t;
        return 0;
    }

    long lake(int lake, int what) {
        if (none(lake) || what < 0 || what > 8) {
            return Check.THROWS;
        }
        Lake l = now.lakes.get(lake);
        return new int[] {l.brim, l.tap, l.leak, l.king, l.down, l.level, l.out ? 1 : 0, l.hair, now.run(rule, lake)}[what];
    }

    int sheet(int kind, int n, int f, int step) {
        if (kind < 0 || kind > 3 || n > 6) {
            return -1;
        }
        if (kind < 3 && n < 0) {
            return -2;
        }
        for (int i = 0; i < size(); i++) {
            long v = 0;
            if (kind < 3 && i < n) {
                int entry = f;
                for (int k = 0; k < i; k++) {
                    entry += step;
                }
                v = kind == 0 ? (byte) entry : kind == 1 ? (short) entry : entry;
            }
            Lake l = now.lakes.get(i);
            l.level = (int) (v < 0 ? 0 : v > l.brim ? l.brim : v);
        }
        return kind == 3 ? -3 : now.sum();
    }

    private void remember(State s) {
        past.addLast(s);
        if (past.size() > 12) {
            past.removeFirst();
        }
    }

    int act(String act) {
        int a = Integer.parseInt(act.substring(1).split(",")[0]);
        int b = act.contains(",") ? Integer.parseInt(act.split(",")[1]) : 0;
        char c = act.charAt(0);
        if (c == 'n') {
            if (a < 0 || a > 60) {
                return -1;
            }
            for (int i = 0; i < a; i++) {
                now.pass(rule);
            }
            return now.sum();
        }
        if (none(a) || c == 't' && (b < 0 || b > 9) || c == 'g' && (b < 0 || b > 3)) {
            return -1;
        }
        Lake l = now.lakes.get(a);
        int was;
        switch (c) {
            case 'p':
            case 's':
                if (l.out == (c == 'p')) {
                    return -2;
                }
                l.out = c == 'p';
                return now.out();
            case 'c':
                was = l.hair;
                l.hair = 0;
                return was == 0 ? -2 : was;
            case 't':
                was = l.tap;
                l.tap = b;
                return was == b ? -2 : 10 + was;
            default:
                was = l.king;
                l.king = b;
                return was == b ? -2 : 10 + was;
        }
    }

    int acted(String act) {
        State s = now.copy();
        int answer = act(act);
        if (answer >= 0 && !act.equals("n0")) {
            remember(s);
        }
        if (answer >= 0 && act.charAt(0) == 'n') {
            tell(now.spilt - s.spilt, now.dried - s.dried);
        }
        return answer;
    }

    int year() {
        String t = take();
        String cut = t.length() > 60 ? t.substring(0, 60) : t;
        List<String> acts = new ArrayList<>();
        int i = 0;
        while (i < cut.length()) {
            char c = cut.charAt(i);
            if ("npsctg".indexOf(c) < 0) {
                return -1 - i;
            }
            String form = c == 't' ? "dd" : c == 'g' ? "dk" : "d";
            String act = "" + c;
            i++;
            for (char f : form.toCharArray()) {
                if (i >= cut.length()) {
                    return -1 - i;
                }
                char v = cut.charAt(i);
                if (f == 'd' ? v < '0' || v > '9' : v < 'a' || v > 'd') {
                    return -1 - i;
                }
                act += (act.length() > 1 ? "," : "") + (f == 'd' ? v - '0' : v - 'a');
                i++;
            }
            acts.add(act);
        }
        if (t.length() > 60) {
            return -61;
        }
        State s = now.copy();
        int done = 0;
        for (String act : acts) {
            if (act(act) < 0) {
                break;
            }
            done++;
        }
        if (done > 0) {
            remember(s);
        }
        tell(done < acts.size() ? 1 : 0, now.sum());
        return done;
    }

    int undo() {
        if (past.isEmpty()) {
            return -1;
        }
        now = past.removeLast();
        return past.size();
    }

    int later(int lake, int n) {
        if (none(lake) || n < 0 || n > 99) {
            return -1;
        }
        State s = now.in(rule, n);
        tell();
        for (Lake l : s.lakes) {
            row.add((long) l.level);
        }
        return s.lakes.get(lake).level;
    }

    /** LEVEL of a LAKE behind 0 .. n DAYS. */
    private int[] course(int lake, int n) {
        int[] levels = new int[n + 1];
        State s = now.copy();
        for (int d = 0; d <= n; d++) {
            levels[d] = s.lakes.get(lake).level;
            s.pass(rule);
        }
        return levels;
    }

    int dries(int lake) {
        if (none(lake)) {
            return -1;
        }
        int[] levels = course(lake, 99);
        for (int d = 0; d <= 99; d++) {
            if (levels[d] == 0) {
                tell(now.in(rule, d).sum());
                return d;
            }
        }
        return -2;
    }

    int brims(int lake) {
        if (none(lake)) {
            return -1;
        }
        int[] levels = course(lake, 99);
        for (int d = 0; d <= 99; d++) {
            if (levels[d] == now.lakes.get(lake).brim) {
                tell(now.in(rule, d).spilt - now.spilt);
                return d;
            }
        }
        return -2;
    }

    int marks(int lake, int n) {
        if (none(lake) || n < 0 || n > 99) {
            return -1;
        }
        int[] levels = course(lake, n);
        int least = Arrays.stream(levels).min().getAsInt();
        int most = Arrays.stream(levels).max().getAsInt();
        int a = 0;
        while (levels[a] != least) {
            a++;
        }
        int b = 0;
        while (levels[b] != most) {
            b++;
        }
        tell(a, most, b);
        return least;
    }

    int realm(int king) {
        if (king < 0 || king > 3) {
            return -1;
        }
        int set = 0;
        int level = 0;
        int brim = 0;
        for (int i = 0; i < size(); i++) {
            Lake l = now.lakes.get(i);
            if (l.king == king) {
                set += 1 << i;
                level += l.level;
                brim += l.brim;
            }
        }
        tell(level, brim);
        return set;
    }

    int course(int lake) {
        if (none(lake)) {
            return -1;
        }
        tell();
        for (int at = lake; at >= 0; at = now.lakes.get(at).down) {
            row.add((long) at);
        }
        return row.size();
    }

    int basin(int lake) {
        if (none(lake)) {
            return -1;
        }
        int set = 0;
        int level = 0;
        int straight = 0;
        for (int i = 0; i < size(); i++) {
            int at = now.lakes.get(i).down;
            straight += at == lake ? 1 : 0;
            while (at >= 0) {
                if (at == lake) {
                    set |= 1 << i;
                    level += now.lakes.get(i).level;
                }
                at = now.lakes.get(at).down;
            }
        }
        tell(level, straight);
        return set;
    }

    int order(int n) {
        if (n < 0 || n > 99) {
            return -1;
        }
        List<int[]> firsts = new ArrayList<>();
        for (int i = 0; i < size(); i++) {
            int[] levels = course(i, n);
            for (int d = 0; d <= n; d++) {
                if (levels[d] == 0) {
                    firsts.add(new int[] {d, i});
                    break;
                }
            }
        }
        firsts.sort((x, y) -> x[0] != y[0] ? x[0] - y[0] : x[1] - y[1]);
        tell();
        for (int[] f : firsts) {
            row.add((long) f[1]);
        }
        return firsts.size();
    }

    int meets(int one, int other) {
        if (none(one) || none(other) || one == other) {
            return -1;
        }
        int[] a = course(one, 99);
        int[] b = course(other, 99);
        for (int d = 0; d <= 99; d++) {
            if (a[d] == b[d]) {
                tell(a[d]);
                return d;
            }
        }
        return -2;
    }

    private static int[] byKing(State s) {
        int[] has = new int[4];
        for (Lake l : s.lakes) {
            has[l.king] += l.level;
        }
        return has;
    }

    int richest(int n) {
        if (n < 0 || n > 99) {
            return -1;
        }
        State s = now.in(rule, n);
        int[] has = byKing(s);
        int best = 0;
        for (int k = 1; k < 4; k++) {
            best = has[k] > has[best] ? k : best;
        }
        tell(has[best], s.sum() - has[best]);
        return best;
    }

    int swims(int lake, int v, int n) {
        if (none(lake) || v < 0 || v > 99 || n < 1 || n > 99) {
            return -1;
        }
        int[] levels = course(lake, n);
        String marks = "";
        for (int d = 1; d <= n; d++) {
            marks += levels[d] >= v ? "x" : " ";
        }
        int longest = 0;
        for (String part : marks.split(" ")) {
            longest = Math.max(longest, part.length());
        }
        tell(longest, marks.indexOf('x') + 1);
        return marks.replace(" ", "").length();
    }

    private static int dry(State s) {
        int set = 0;
        for (int i = 0; i < s.lakes.size(); i++) {
            set += s.lakes.get(i).level == 0 ? 1 << i : 0;
        }
        return set;
    }

    private int touched(int looked, int dry, int n) {
        int best = -1;
        for (int set = 0; set < 1 << size(); set++) {
            State s = now.copy();
            for (int i = 0; i < size(); i++) {
                if ((set >> i) % 2 == 1) {
                    s.lakes.get(i).out = !s.lakes.get(i).out;
                }
            }
            boolean better = best < 0 || Integer.bitCount(set) < Integer.bitCount(best);
            if (better && (dry(s.in(rule, n)) & looked) == dry) {
                best = set;
            }
        }
        if (best < 0) {
            return -2;
        }
        tell(best);
        return Integer.bitCount(best);
    }

    int lets(int lake, int n) {
        return none(lake) || n < 0 || n > 40 ? -1 : touched(1 << lake, 1 << lake, n);
    }

    int just(int some, int n) {
        if (some < 0 || some >= 1 << size() || n < 0 || n > 40) {
            return -1;
        }
        return touched(63, some, n);
    }

    int fills(int many, int n) {
        if (many < 0 || many > 6 || n < 0 || n > 40) {
            return -1;
        }
        if (many > size()) {
            return -2;
        }
        int best = -1;
        int bestSum = -1;
        for (int set = (1 << size()) - 1; set >= 0; set--) {
            if (Integer.bitCount(set) != many) {
                continue;
            }
            State s = now.copy();
            for (int i = 0; i < size(); i++) {
                s.lakes.get(i).out = (set >> i) % 2 == 1;
            }
            int sum = s.in(rule, n).sum();
            if (sum >= bestSum) {
                bestSum = sum;
                best = set;
            }
        }
        tell(best);
        return bestSum;
    }

    int needs(int lake, int v, int n) {
        if (none(lake) || v < 0 || v > 99 || n < 0 || n > 60) {
            return -1;
        }
        for (int tap = 0; tap <= 9; tap++) {
            State s = now.copy();
            s.lakes.get(lake).tap = tap;
            int level = s.in(rule, n).lakes.get(lake).level;
            if (level >= v) {
                tell(level);
                return tap;
            }
        }
        return -2;
    }

    int crosses(int n) {
        if (n < 1 || n > 40) {
            return -1;
        }
        if (size() == 0) {
            return -2;
        }
        int without = now.in(rule, n).sum();
        int best = -1;
        int by = 0;
        for (int i = size() - 1; i >= 0; i--) {
            State s = now.copy();
            Lake l = s.lakes.get(i);
            if (l.out) {
                l.hair = 0;
            } else {
                l.out = true;
            }
            int less = without - s.in(rule, n).sum();
            if (best < 0 || less >= by) {
                best = i;
                by = less;
            }
        }
        tell(1000 + by);
        return best;
    }

    int ring(int lake, int n, int v) {
        if (none(lake) || n < 0 || n > 20 || v < 0 || v > 99 || rings.size() == 10) {
            return -1;
        }
        rings.add(new int[] {lake, n, v});
        return rings.size();
    }

    int washes() {
        int many = rings.size();
        rings.clear();
        return many;
    }

    private boolean fits(int lake, int more) {
        State s = now.copy();
        if (lake >= 0) {
            s.lakes.get(lake).leak += more;
        }
        for (int[] r : rings) {
            if (s.in(rule, r[1]).lakes.get(r[0]).level != r[2]) {
                return false;
            }
        }
        return true;
    }

    private List<int[]> fitting() {
        List<int[]> all = new ArrayList<>();
        for (int i = 0; i < size(); i++) {
            for (int more = 1; more <= 9; more++) {
                if (fits(i, more)) {
                    all.add(new int[] {i, more});
                }
            }
        }
        return all;
    }

    int leaks() {
        List<int[]> all = fitting();
        if (all.isEmpty()) {
            tell(fits(-1, 0) ? 1 : 0);
        } else {
            tell(fits(-1, 0) ? 1 : 0, all.get(0)[0], all.get(0)[1]);
        }
        return all.size();
    }

    int reads() {
        List<int[]> all = fitting();
        if (all.isEmpty()) {
            return -2;
        }
        int best = -1;
        int fewest = 1000;
        List<Map<Integer, Integer>> groups = new ArrayList<>();
        for (int i = 0; i < 21 * size(); i++) {
            groups.add(new HashMap<>());
        }
        for (int[] leak : all) {
            State s = now.copy();
            s.lakes.get(leak[0]).leak += leak[1];
            for (int d = 0; d <= 20; d++) {
                for (int i = 0; i < size(); i++) {
                    groups.get(21 * i + d).merge(s.lakes.get(i).level, 1, Integer::sum);
                }
                s.pass(rule);
            }
        }
        for (int i = 0; i < groups.size(); i++) {
            int most = groups.get(i).values().stream().max(Integer::compare).get();
            if (most < fewest) {
                fewest = most;
                best = i;
            }
        }
        tell(fewest);
        return best;
    }

    /** Nim by who has left an even number of each bit. */
    int threat(int some) {
        if (some < 0 || some >= 1 << size()) {
            return -1;
        }
        tell();
        for (int i = 0; i < size(); i++) {
            for (int take = 1; (some >> i) % 2 == 1 && take <= now.lakes.get(i).level; take++) {
                int[] bits = new int[7];
                for (int k = 0; k < size(); k++) {
                    int left = (some >> k) % 2 == 1 ? now.lakes.get(k).level - (k == i ? take : 0) : 0;
                    for (int b = 0; b < 7; b++) {
                        bits[b] += (left >> b) % 2;
                    }
                }
                if (Arrays.stream(bits).allMatch(b -> b % 2 == 0)) {
                    tell(i, take);
                    return 1;
                }
            }
        }
        return 0;
    }

    int treaty(int q) {
        if (q < 0 || q > 999) {
            return -1;
        }
        int[] has = byKing(now);
        boolean[] may = new boolean[16];
        for (int set = 0; set < 16; set++) {
            int sum = 0;
            for (int k = 0; k < 4; k++) {
                sum += (set >> k) % 2 * has[k];
            }
            may[set] = sum >= q;
        }
        int many = 0;
        int some = 0;
        int all = 15;
        for (int set = 0; set < 16; set++) {
            boolean least = may[set];
            for (int sub = 0; sub < set; sub++) {
                least = least && !((sub & set) == sub && may[sub]);
            }
            if (least) {
                many++;
                some |= set;
                all &= set;
            }
        }
        tell(some, many == 0 ? 0 : all);
        return many;
    }

    int wants(int king) {
        if (king < 0 || king > 3) {
            return -1;
        }
        int best = -1;
        for (int set = 0; set < 1 << size(); set++) {
            double has = 0;
            for (int i = 0; i < size(); i++) {
                Lake l = now.lakes.get(i);
                has += (set >> i) % 2 == 1 || l.king == king ? l.level : 0;
            }
            boolean better = best < 0 || Integer.bitCount(set) < Integer.bitCount(best);
            if (better && has > now.sum() / 2.0) {
                best = set;
            }
        }
        if (best < 0) {
            return -2;
        }
        tell(best);
        return Integer.bitCount(best);
    }

    int evens() {
        TreeMap<Integer, Integer> best = new TreeMap<>();
        for (int set = 0; set < 1 << size(); set++) {
            if (set % 2 == 1) {
                continue;
            }
            int one = 0;
            int other = 0;
            for (int i = 0; i < size(); i++) {
                if ((set >> i) % 2 == 1) {
                    one += now.lakes.get(i).level;
                } else {
                    other += now.lakes.get(i).level;
                }
            }
            best.putIfAbsent(Math.abs(one - other), set);
        }
        tell(best.firstEntry().getValue());
        return best.firstKey();
    }

    int feared() {
        int[] has = byKing(now);
        int best = 0;
        for (int k = 0; k < 4; k++) {
            best = now.sum() - has[k] < now.sum() - has[best] ? k : best;
        }
        tell(now.sum() - has[best]);
        return best;
    }

    private int[] bestHeirs;
    private int bestWorth;

    int heirs() {
        String t = take();
        if (t.isEmpty()) {
            return -1;
        }
        for (int i = 0; i < t.length(); i++) {
            if (i == 6 || "abcd".indexOf(t.charAt(i)) < 0) {
                return -1 - i;
            }
        }
        bestWorth = -1;
        tryHeirs(t, new int[t.length()], 0, 0);
        tell();
        for (int v : bestHeirs) {
            row.add((long) v);
        }
        return bestWorth;
    }

    private void tryHeirs(String t, int[] has, int heir, int worth) {
        if (heir == t.length()) {
            if (worth > bestWorth) {
                bestWorth = worth;
                bestHeirs = has.clone();
            }
            return;
        }
        for (int i = -1; i < size(); i++) {
            boolean free = true;
            for (int h = 0; h < heir; h++) {
                free = free && (i < 0 || has[h] != i);
            }
            if (free && (i < 0 || now.lakes.get(i).king != t.charAt(heir) - 'a')) {
                has[heir] = i;
                tryHeirs(t, has, heir + 1, worth + (i < 0 ? 0 : now.lakes.get(i).level));
            }
        }
    }

    int duck(int from, int to, int n) {
        if (none(from) || none(to) || n < 0 || n > 10) {
            return -1;
        }
        BigInteger[] c = chance(from, to, n);
        tell(c[0].longValueExact(), c[1].longValueExact());
        return 0;
    }

    private final Map<String, BigInteger[]> chances = new HashMap<>();

    private BigInteger[] chance(int from, int to, int n) {
        chances.clear();
        return chanceOf(from, to, n);
    }

    private BigInteger[] chanceOf(int from, int to, int n) {
        if (n == 0) {
            return new BigInteger[] {from == to ? BigInteger.ONE : BigInteger.ZERO, BigInteger.ONE};
        }
        String key = from + "," + n;
        if (chances.containsKey(key)) {
            return chances.get(key);
        }
        List<Integer> ways = new ArrayList<>();
        for (int i = 0; i < size(); i++) {
            if (now.lakes.get(i).down == from || now.lakes.get(from).down == i) {
                ways.add(i);
            }
        }
        if (ways.isEmpty()) {
            ways.add(from);
        }
        BigInteger up = BigInteger.ZERO;
        BigInteger low = BigInteger.ONE;
        for (int way : ways) {
            BigInteger[] c = chanceOf(way, to, n - 1);
            up = up.multiply(c[1]).add(c[0].multiply(low));
            low = low.multiply(c[1]);
        }
        low = low.multiply(BigInteger.valueOf(ways.size()));
        BigInteger g = up.gcd(low);
        BigInteger[] got = {up.divide(g), low.divide(g)};
        chances.put(key, got);
        return got;
    }

    int spoon(int lake, int v, int n) {
        if (none(lake) || v < 1 || v > 9 || n < 0 || n > 60) {
            return -1;
        }
        State s = now.copy();
        int took = 0;
        for (int d = 0; d < n; d++) {
            for (int k = 0; k < v && s.lakes.get(lake).level > 0; k++) {
                s.lakes.get(lake).level--;
                took++;
            }
            s.pass(rule);
        }
        tell(took);
        return s.lakes.get(lake).level;
    }

    private static int[] gains(int x, int y, int v) {
        int[] g = new int[2];
        if (x > y) {
            g[0] += v;
        } else if (y > x) {
            g[1] += v;
        } else {
            g[0] += v / 2;
            g[1] += v / 2;
        }
        g[0] -= x * x / 4;
        g[1] -= y * y / 4;
        if (x >= 5 && y >= 5) {
            g[0] -= 2;
            g[1] -= 2;
        }
        return g;
    }

    int rests(int v) {
        if (v < 0 || v > 20) {
            return -1;
        }
        tell();
        int many = 0;
        for (int x = 0; x < 10; x++) {
            for (int y = 0; y < 10; y++) {
                boolean rest = true;
                for (int z = 0; z < 10; z++) {
                    rest = rest && gains(z, y, v)[0] <= gains(x, y, v)[0] && gains(x, z, v)[1] <= gains(x, y, v)[1];
                }
                if (rest && many++ == 0) {
                    tell(x, y);
                }
            }
        }
        return many;
    }

    int law() {
        String t = take();
        int p = ruleFault(t);
        if (p >= 0) {
            return -10000 - p;
        }
        int a = now.in(t, 12).sum();
        int b = now.in(rule, 12).sum();
        tell(a, b);
        return a - b;
    }

    private long drawn;

    private int draw(int n) {
        drawn = (drawn * 1103515245L + 12345L) & 0xFFFFFFFFL;
        return (int) (drawn / 65536 % n);
    }

    int years(int seed, int n) {
        if (n < 1 || n > 60) {
            return -1;
        }
        State s = now.copy();
        drawn = seed & 0xFFFFFFFFL;
        for (int i = 0; i < n; i++) {
            int what = draw(4);
            if (what < 2) {
                s.pass(rule);
            } else if (size() > 0) {
                Lake l = s.lakes.get(draw(size()));
                if (what == 2) {
                    l.out = !l.out;
                } else {
                    l.tap = draw(10);
                }
            }
        }
        tell(s.spilt - now.spilt, s.dried - now.dried);
        return s.sum();
    }

    boolean keep(int i) {
        if (i != 0 && i != 1) {
            return false;
        }
        kept[i] = now.copy();
        return true;
    }

    boolean again(int i) {
        if (i != 0 && i != 1 || kept[i] == null) {
            return false;
        }
        now = kept[i].copy();
        past.clear();
        return true;
    }

    int count(int what) {
        int hair = 0;
        int out = 0;
        int full = 0;
        for (int i = 0; i < size(); i++) {
            Lake l = now.lakes.get(i);
            hair += l.hair;
            out += l.out ? 1 << i : 0;
            full += l.level == l.brim ? 1 << i : 0;
        }
        int[] all = {size(), now.day, now.spilt, now.dried, now.sum(), out, hair, dry(now), rings.size(), past.size(),
            row.size(), text.length(), full};
        return what < 0 || what >= all.length ? -1 : all[what];
    }

    long row(int i) {
        return i < 0 || i >= row.size() ? Check.THROWS : row.get(i);
    }
}
