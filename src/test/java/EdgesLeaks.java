/** Boundary cases that promises 32 to 35 name: rings, leaks, what to read next. */
final class EdgesLeaks {
    private static final String THREE = "3020a-;1201b0;2010a0";
    private static final int[] NO_LAKE_OF_THREE = {-1, 3, 5, 6, 31, 32, Integer.MIN_VALUE, Integer.MAX_VALUE};

    // ---- Promise 32

    @Says(promise = 32, words = "LEVEL of a LAKE was v (0 .. 99) in n DAYS (0 .. 20) from now: how many such.")
    static void ringsOf0To20DaysAnd0To99(Check c) {
        PullThePlug x = Check.made(THREE);
        c.due("v 0 in 0", x.ring(0, 0, 0), 1);
        c.due("v 99 in 20", x.ring(2, 20, 99), 2);
        c.due("the same again", x.ring(2, 20, 99), 3);
        c.due("rings", x.count(8), 3);
    }

    @Says(promise = 32, words = "Refused: none such, others, 10.")
    static void ringOfNoneSuch(Check c) {
        PullThePlug x = Check.made(THREE);
        for (int lake : NO_LAKE_OF_THREE) {
            c.idle("ring(" + lake + ", 1, 1)", x, () -> x.ring(lake, 1, 1), -1);
        }
        c.due("without LAKES", new PullThePlug().ring(0, 0, 0), -1);
    }

    @Says(promise = 32, words = "Refused: none such, others, 10.")
    static void ringOfOthers(Check c) {
        PullThePlug x = Check.made(THREE);
        int[] days = {-1, 21, Integer.MIN_VALUE, Integer.MAX_VALUE};
        for (int n : days) {
            c.idle("ring(2, " + n + ", 1)", x, () -> x.ring(2, n, 1), -1);
        }
        int[] levels = {-1, 100, Integer.MIN_VALUE, Integer.MAX_VALUE};
        for (int v : levels) {
            c.idle("ring(2, 1, " + v + ")", x, () -> x.ring(2, 1, v), -1);
        }
    }

    @Says(promise = 32, words = "Refused: none such, others, 10.")
    static void thereAreTenRingsAtMost(Check c) {
        PullThePlug x = Check.made(THREE);
        for (int i = 1; i <= 10; i++) {
            c.due("ring " + i, x.ring(0, 0, 30), i);
        }
        c.idle("ring 11", x, () -> x.ring(0, 0, 0), -1);
        c.due("the eleventh was not taken", x, x.leaks(), 27, 1, 0, 1);
        x.washes();
        c.due("ring 1 again", x.ring(0, 0, 30), 1);
    }

    // ---- Promise 33

    @Says(promise = 33, words = "Rings are washed off: how many there were.")
    static void washesTellHowManyThereWere(Check c) {
        PullThePlug x = Check.made(THREE);
        c.due("none", x.washes(), 0);
        for (int i = 0; i < 10; i++) {
            x.ring(0, 0, 0);
        }
        c.due("leaks by them", x, x.leaks(), 0, 0);
        c.due("ten", x.washes(), 10);
        c.due("none then", x.count(8), 0);
        c.due("leaks without them", x, x.leaks(), 27, 1, 0, 1);
        c.due("none again", x.washes(), 0);
        c.due("without LAKES", new PullThePlug().washes(), 0);
    }

    // ---- Promise 34

    @Says(promise = 34, words = "Leaks (a LAKE whose LEAK is 1 .. 9 more than told)")
    static void leaksAre1To9MoreThanTold(Check c) {
        PullThePlug x = Check.made("9903a-");
        int[] levels = {97, 96, 95, 87, 86};
        int[] many = {0, 0, 1, 1, 0};
        for (int i = 0; i < levels.length; i++) {
            x.ring(0, 1, levels[i]);
            c.due("ring of " + levels[i], x.leaks(), many[i]);
            x.washes();
        }
        x.ring(0, 1, 87);
        c.due("9 more", x, x.leaks(), 1, 0, 0, 9);
        PullThePlug nine = Check.made("9909a-");
        nine.ring(0, 1, 81);
        c.due("9 more than 9", nine, nine.leaks(), 1, 0, 0, 9);
        c.due("LEAK is as it was", Check.lakeOf(nine, 0, 2), 9);
    }

    @Says(promise = 34, words = "by each of which all rings are as they were read, nothing being done: how many;")
    static void leaksFitAllRings(Check c) {
        PullThePlug x = Check.made("9900a-;9900b-");
        x.ring(0, 1, 97);
        c.due("2 out of 0", x, x.leaks(), 1, 0, 0, 2);
        x.ring(0, 20, 59);
        c.due("the last DAY, too", x, x.leaks(), 1, 0, 0, 2);
        x.ring(0, 0, 99);
        c.due("now, too", x, x.leaks(), 1, 0, 0, 2);
        x.ring(1, 5, 99);
        c.due("another LAKE, too", x, x.leaks(), 1, 0, 0, 2);
        x.ring(0, 0, 98);
        c.due("not now", x, x.leaks(), 0, 0);
        PullThePlug y = Check.made("9900a-");
        y.ring(0, 1, 97);
        y.ring(0, 20, 60);
        c.due("not on the last DAY", y, y.leaks(), 0, 0);
        PullThePlug none = new PullThePlug();
        c.due("without LAKES", none, none.leaks(), 0, 1);
    }

    @Says(promise = 34, words = "the ROW: 1 if they are so without any, else 0;")
    static void leaksTellIfRingsAreSoWithoutAny(Check c) {
        PullThePlug x = Check.made("9990a-");
        c.due("without rings", x, x.leaks(), 9, 1, 0, 1);
        x.ring(0, 5, 99);
        c.due("so without any, and with each", x, x.leaks(), 9, 1, 0, 1);
        x.ring(0, 5, 98);
        c.due("not so", x, x.leaks(), 0, 0);
        PullThePlug y = Check.made("9900a-");
        y.ring(0, 1, 99);
        c.due("so without any alone", y, y.leaks(), 0, 1);
    }

    @Says(promise = 34, words = "the least one (LAKE, how much; nothing without).")
    static void leaksTellTheLeastOne(Check c) {
        PullThePlug x = Check.made("9900a-;9900b-;9900c-");
        x.ring(0, 1, 99);
        c.due("of LAKES 1 and 2", x, x.leaks(), 18, 1, 1, 1);
        x.ring(1, 1, 99);
        c.due("of LAKE 2", x, x.leaks(), 9, 1, 2, 1);
        x.ring(2, 1, 99);
        c.due("nothing without", x, x.leaks(), 0, 1);
        PullThePlug dry = Check.made("0500a-");
        dry.ring(0, 1, 0);
        c.due("5 .. 9 let all out", dry, dry.leaks(), 5, 0, 0, 5);
    }

    // ---- Promise 35

    @Says(promise = 35, words = "The ring to read next (LAKE, DAYS 0 .. 20)")
    static void readsFrom0To20Days(Check c) {
        PullThePlug one = Check.made("9900a-");
        one.ring(0, 1, 97);
        c.due("one leak: in 0", one, one.reads(), 0, 1);
        PullThePlug last = Check.made("0412a-;4121a0", "", 3);
        c.due("the last DAY tells most", last, last.reads(), 20, 9);
    }

    @Says(promise = 35, words = "so that, whatever LEVEL is, the fewest of those leaks are left at most")
    static void readsLeavesTheFewestAtMost(Check c) {
        PullThePlug x = Check.made(THREE);
        x.ring(1, 1, 11);
        c.due("LAKE 2 in 1", x, x.reads(), 43, 10);
        PullThePlug y = Check.made("0900a-", 5, 0);
        c.due("1 .. 4 differ, 5 .. 9 do not", y, y.reads(), 1, 5);
        c.due("asked once more", y, y.reads(), 1, 5);
        PullThePlug z = Check.made("9990a-");
        c.due("all are hidden", z, z.reads(), 0, 9);
    }

    @Says(promise = 35, words = "21 times LAKE, and DAYS, of equal ones the least: it; the ROW: how many at most.")
    static void readsTellsTheLeastOfEqualOnes(Check c) {
        PullThePlug x = Check.made("9900a-");
        c.due("1 .. 10 DAYS are alike", x, x.reads(), 1, 1);
        PullThePlug y = Check.made("9900a-;9900b-");
        c.due("LAKES are alike", y, y.reads(), 1, 9);
        PullThePlug z = Check.made("9990a-;9990b-;9900c-");
        c.due("LAKE 2 in 1", z, z.reads(), 43, 18);
    }

    @Says(promise = 35, words = "-2: none fits.")
    static void readsWhereNoneFits(Check c) {
        PullThePlug x = Check.made("9900a-");
        x.ring(0, 1, 99);
        x.later(0, 0);
        c.idle("rings are so without any alone", x, x::reads, -2);
        x.washes();
        c.due("without rings", x, x.reads(), 1, 1);
        x.ring(0, 0, 0);
        c.idle("rings are not so", x, x::reads, -2);
        c.due("without LAKES", new PullThePlug().reads(), -2);
    }
}
