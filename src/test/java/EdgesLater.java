/** Boundary cases that promises 16 to 26 name: levels later, what a king has, where water goes. */
final class EdgesLater {
    private static final String THREE = "3020a-;1201b0;2010a0";
    /** LAKE 1 gives LAKE 0 its only water on the first DAY, so LAKE 0, that leaks 1 a DAY, is dry in 100. */
    private static final String DRY_IN_100 = "9901a-;0100a0;9900a-";
    private static final int[] NO_LAKE_OF_THREE = {-1, 3, 5, 6, 31, 32, Integer.MIN_VALUE, Integer.MAX_VALUE};
    private static final int[] NO_99 = {-1, 100, Integer.MIN_VALUE, Integer.MAX_VALUE};

    private static PullThePlug dryIn100() {
        PullThePlug x = Check.made(DRY_IN_100, "h=0", 2);
        x.sheet(2, 2, 99, -98);
        return x;
    }

    // ---- Promise 16

    @Says(promise = 16, words = "LEVEL of a LAKE in n DAYS (0 .. 99), nothing being done: it; the ROW: LEVELS of all, in turn.")
    static void laterIsFrom0To99(Check c) {
        PullThePlug x = Check.made("9901a-;5010b-", 99, -99);
        c.due("in 0", x, x.later(0, 0), 99, 99, 0);
        c.due("in 1", x, x.later(1, 1), 1, 98, 1);
        c.due("in 98", x, x.later(0, 98), 1, 1, 50);
        c.due("in 99", x, x.later(0, 99), 0, 0, 50);
        c.due("DAY", x.count(1), 0);
    }

    @Says(promise = 16, words = "NONE: others.")
    static void laterOfOthers(Check c) {
        PullThePlug x = Check.made(THREE);
        x.evens();
        for (int lake : NO_LAKE_OF_THREE) {
            c.idle("later(" + lake + ", 1)", x, () -> x.later(lake, 1), -1);
        }
        for (int n : NO_99) {
            c.idle("later(2, " + n + ")", x, () -> x.later(2, n), -1);
        }
        c.due("without LAKES", new PullThePlug().later(0, 0), -1);
        c.due("the last one", x, x.later(2, 0), 20, 30, 12, 20);
    }

    // ---- Promise 17

    @Says(promise = 17, words = "In how many DAYS (0: now .. 99) LEVEL of a LAKE is 0 first")
    static void driesNowOrIn99(Check c) {
        PullThePlug x = Check.made("9901a-;5000b-", 0, 50);
        c.due("now", x, x.dries(0), 0, 50);
        x.sheet(2, 2, 1, 0);
        c.due("in 1", x, x.dries(0), 1, 1);
        x.sheet(2, 2, 99, 0);
        c.due("in 99", x, x.dries(0), 99, 50);
    }

    @Says(promise = 17, words = "LEVEL of a LAKE is 0 first, nothing being done: how many; the ROW: LEVEL of all together then.")
    static void driesIsTheFirstTime(Check c) {
        PullThePlug x = Check.made("9900a-;9900a0", "l*(n=2)", 3);
        x.sheet(2, 2, 5, 2);
        c.due("in 3, and from then on", x, x.dries(1), 3, 7);
        PullThePlug slow = Check.made("9901a-", 3, 0);
        c.due("by 1 a DAY", slow, slow.dries(0), 3, 0);
        // LAKE 0 is dry, gets what LAKE 1 has, and is dry again.
        PullThePlug y = Check.made("9900a-;9900a0", "l", 3);
        y.sheet(2, 2, 0, 9);
        c.due("now, and again in 2", y, y.dries(0), 0, 9);
        y.days(1);
        c.due("in 1 then", y, y.dries(0), 1, 0);
    }

    @Says(promise = 17, words = "-2: in none of these;")
    static void driesInNoneOf99(Check c) {
        PullThePlug x = dryIn100();
        x.later(0, 99);
        c.due("1 is left in 99", Check.rowOf(x, 0), 1);
        c.idle("dries(0)", x, () -> x.dries(0), -2);
        x.days(1);
        c.due("a DAY later", x, x.dries(0), 99, 0);
    }

    @Says(promise = 17, words = "NONE: none such.")
    static void driesOfNoneSuch(Check c) {
        PullThePlug x = Check.made(THREE);
        x.evens();
        for (int lake : NO_LAKE_OF_THREE) {
            c.idle("dries(" + lake + ")", x, () -> x.dries(lake), -1);
        }
        c.due("without LAKES", new PullThePlug().dries(0), -1);
    }

    // ---- Promise 18

    @Says(promise = 18, words = "In how many DAYS (0: now .. 99) LEVEL of a LAKE is BRIM first")
    static void brimsNowOrIn99(Check c) {
        PullThePlug x = Check.made("9910a-;0150b-");
        c.due("now", x, x.brims(0), 0, 0);
        x.sheet(2, 2, 98, -97);
        c.due("in 1", x, x.brims(0), 1, 5);
        x.sheet(2, 2, 0, 1);
        c.due("in 99", x, x.brims(0), 99, 99 * 5);
    }

    @Says(promise = 18, words = "the ROW: SPILT more till then.")
    static void brimsTellsSpiltTillThen(Check c) {
        PullThePlug x = Check.made("9910a-;0150b-");
        x.days(2);
        c.due("SPILT ahead", x.count(2), 12);
        x.sheet(2, 2, 96, -95);
        c.due("3 DAYS of 5, and LAKE 0 not yet", x, x.brims(0), 3, 15);
        c.due("now", x, x.brims(1), 0, 0);
        PullThePlug over = Check.made("0540a-", 4, 0);
        c.due("what is above on that DAY counts", over, over.brims(0), 1, 3);
    }

    @Says(promise = 18, words = "-2: in none of these;")
    static void brimsInNoneOf99(Check c) {
        // The one DAY on which 1 runs out makes it 100 DAYS.
        PullThePlug x = Check.made("9910a-", "h=1", 1);
        x.sheet(3, 0, 0, 0);
        c.due("98 in 99", x.later(0, 99), 98);
        c.idle("brims(0)", x, () -> x.brims(0), -2);
        x.days(1);
        c.due("a DAY later", x, x.brims(0), 99, 0);
    }

    @Says(promise = 18, words = "NONE: none such.")
    static void brimsOfNoneSuch(Check c) {
        PullThePlug x = Check.made(THREE);
        x.evens();
        for (int lake : NO_LAKE_OF_THREE) {
            c.idle("brims(" + lake + ")", x, () -> x.brims(lake), -1);
        }
        c.due("without LAKES", new PullThePlug().brims(0), -1);
    }

    // ---- Promise 19

    @Says(promise = 19, words = "now and behind each of the next n DAYS (0 .. 99)")
    static void marksFromNowTo99(Check c) {
        PullThePlug x = Check.made("9901a-;9910b-", 99, -99);
        c.due("now alone", x, x.marks(0, 0), 99, 0, 99, 0);
        c.due("98 DAYS", x, x.marks(0, 98), 1, 98, 99, 0);
        c.due("99 DAYS", x, x.marks(0, 99), 0, 99, 99, 0);
        c.due("99 DAYS upwards", x, x.marks(1, 99), 0, 0, 99, 99);
    }

    @Says(promise = 19, words = "the least; the ROW: in how many DAYS first, the most, in how many DAYS first.")
    static void marksTellTheFirstDay(Check c) {
        PullThePlug x = Check.made("5000a-", "(n=0)*5", 1);
        c.due("45 on five DAYS", x, x.marks(0, 5), 45, 1, 50, 0);
        PullThePlug y = Check.made("5050a-", 45, 0);
        c.due("50 on five DAYS", y, y.marks(0, 5), 45, 0, 50, 1);
        PullThePlug z = Check.made("5000a-");
        c.due("all alike", z, z.marks(0, 99), 50, 0, 50, 0);
    }

    @Says(promise = 19, words = "NONE: others.")
    static void marksOfOthers(Check c) {
        PullThePlug x = Check.made(THREE);
        x.evens();
        for (int lake : NO_LAKE_OF_THREE) {
            c.idle("marks(" + lake + ", 1)", x, () -> x.marks(lake, 1), -1);
        }
        for (int n : NO_99) {
            c.idle("marks(2, " + n + ")", x, () -> x.marks(2, n), -1);
        }
        c.due("without LAKES", new PullThePlug().marks(0, 0), -1);
    }

    // ---- Promise 20

    @Says(promise = 20, words = "What a KING (0 .. 3) has: LAKES (bits); the ROW: their LEVEL together, BRIM together.")
    static void realmsOfAllKings(Check c) {
        PullThePlug x = Check.made("3000a-;1200d-;2000a-", 10, 1);
        c.due("of 0", x, x.realm(0), 5, 22, 50);
        c.due("of 1, who has none", x, x.realm(1), 0, 0, 0);
        c.due("of 3", x, x.realm(3), 2, 11, 12);
        PullThePlug none = new PullThePlug();
        c.due("without LAKES", none, none.realm(0), 0, 0, 0);
    }

    @Says(promise = 20, words = "NONE: another one.")
    static void realmOfAnotherOne(Check c) {
        PullThePlug x = Check.made(THREE);
        x.later(0, 0);
        int[] others = {-1, 4, Integer.MIN_VALUE, Integer.MAX_VALUE};
        for (int king : others) {
            c.idle("realm(" + king + ")", x, () -> x.realm(king), -1);
        }
    }

    // ---- Promise 21

    @Says(promise = 21, words = "how many LAKES there are on the way down, it too; the ROW: they, in turn.")
    static void courseHasTheLakeItself(Check c) {
        PullThePlug x = Check.made("1000a-;1000a0;1000a1;1000a2;1000a3;1000a4");
        c.due("it alone", x, x.course(0), 1, 0);
        c.due("two", x, x.course(1), 2, 1, 0);
        c.due("all six", x, x.course(5), 6, 5, 4, 3, 2, 1, 0);
    }

    @Says(promise = 21, words = "NONE: none such.")
    static void courseOfNoneSuch(Check c) {
        PullThePlug x = Check.made(THREE);
        x.later(0, 0);
        for (int lake : NO_LAKE_OF_THREE) {
            c.idle("course(" + lake + ")", x, () -> x.course(lake), -1);
        }
        c.due("without LAKES", new PullThePlug().course(0), -1);
    }

    // ---- Promise 22

    @Says(promise = 22, words = "LAKES (bits) of which what runs out comes into a LAKE at last, it not;")
    static void basinIsWithoutTheLakeItself(Check c) {
        PullThePlug x = Check.made("1000a-;1000a0;1000a1;1000a2;1000a3;1000a4");
        c.due("of the last, none", x, x.basin(5), 0, 0, 0);
        c.due("of the first, all others", x, x.basin(0), 62, 50, 1);
        PullThePlug y = Check.made("1000a-;1100a-;1200a0;1300a1;1400a2;1500a3");
        c.due("not those of another", y, y.basin(0), 4 + 16, 12 + 14, 1);
    }

    @Says(promise = 22, words = "the ROW: their LEVEL together, how many run into it themselves.")
    static void basinTellsHowManyRunInThemselves(Check c) {
        PullThePlug x = Check.made("1000a-;1100a0;1200a0;1300a1;1400a2;1500a0");
        c.due("three of five", x, x.basin(0), 62, 11 + 12 + 13 + 14 + 15, 3);
        x.sheet(2, 6, 9, -2);
        c.due("by LEVEL, not by BRIM", x, x.basin(0), 62, 7 + 5 + 3 + 1, 3);
    }

    @Says(promise = 22, words = "NONE: none such.")
    static void basinOfNoneSuch(Check c) {
        PullThePlug x = Check.made(THREE);
        x.later(0, 0);
        for (int lake : NO_LAKE_OF_THREE) {
            c.idle("basin(" + lake + ")", x, () -> x.basin(lake), -1);
        }
        c.due("without LAKES", new PullThePlug().basin(0), -1);
    }

    // ---- Promise 23

    @Says(promise = 23, words = "LAKES that are dry now or behind one of the next n DAYS (0 .. 99)")
    static void orderFromNowTo99(Check c) {
        PullThePlug x = Check.made("9901a-;9901b-;9901c-", 99, -98);
        c.due("now", x, x.order(0), 1, 2);
        c.due("in 1", x, x.order(1), 2, 2, 1);
        c.due("in 98", x, x.order(98), 2, 2, 1);
        c.due("in 99", x, x.order(99), 3, 2, 1, 0);
        PullThePlug y = Check.made("9900a-;9900a0", "l", 2);
        y.sheet(2, 2, 0, 9);
        c.due("dry now and not later counts", y, y.order(9), 2, 0, 1);
        PullThePlug none = new PullThePlug();
        c.due("without LAKES", none, none.order(99), 0);
    }

    @Says(promise = 23, words = "in the order in which they are so first (of like ones by their numbers)")
    static void orderOfLikeOnesIsByNumbers(Check c) {
        PullThePlug x = Check.made("0202a-;0101b-;0202c-;0201d-;0301a-;0101b-");
        c.due("four in 1, one in 2, one in 3", x, x.order(9), 6, 0, 1, 2, 5, 3, 4);
        PullThePlug y = Check.made("9900a-;9900a0", "l", 3);
        y.sheet(2, 2, 0, 9);
        c.due("one that is dry now and again in 2 counts once", y, y.order(9), 2, 0, 1);
    }

    @Says(promise = 23, words = "NONE: another n.")
    static void orderOfAnotherN(Check c) {
        PullThePlug x = Check.made(THREE);
        x.later(0, 0);
        for (int n : NO_99) {
            c.idle("order(" + n + ")", x, () -> x.order(n), -1);
        }
    }

    // ---- Promise 24

    @Says(promise = 24, words = "In how many DAYS (0: now .. 99) LEVELS of two LAKES are the same first")
    static void meetsNowOrIn99(Check c) {
        PullThePlug x = Check.made("9901a-;9900b-", 50, 0);
        c.due("now", x, x.meets(0, 1), 0, 50);
        x.sheet(2, 2, 50, -1);
        c.due("in 1", x, x.meets(0, 1), 1, 49);
        x.sheet(2, 2, 99, -99);
        c.due("in 99", x, x.meets(1, 0), 99, 0);
    }

    @Says(promise = 24, words = "are the same first, nothing being done: how many; the ROW: that LEVEL.")
    static void meetsIsTheFirstTime(Check c) {
        PullThePlug x = Check.made("9910a-;9900b-", "(n=4)*9", 1);
        x.sheet(2, 2, 10, 2);
        c.due("in 2, and again behind the DAY of 9", x, x.meets(0, 1), 2, 12);
    }

    @Says(promise = 24, words = "-2: in none of these;")
    static void meetsInNoneOf99(Check c) {
        PullThePlug x = dryIn100();
        x.evens();
        c.idle("meets(0, 2)", x, () -> x.meets(0, 2), -2);
        x.days(1);
        c.due("a DAY later", x, x.meets(0, 2), 99, 0);
    }

    @Says(promise = 24, words = "NONE: none such, like ones.")
    static void meetsOfNoneSuch(Check c) {
        PullThePlug x = Check.made(THREE);
        x.evens();
        for (int lake : NO_LAKE_OF_THREE) {
            c.idle("meets(" + lake + ", 1)", x, () -> x.meets(lake, 1), -1);
            c.idle("meets(1, " + lake + ")", x, () -> x.meets(1, lake), -1);
        }
        c.due("without LAKES", new PullThePlug().meets(0, 1), -1);
    }

    @Says(promise = 24, words = "NONE: none such, like ones.")
    static void meetsOfLikeOnes(Check c) {
        PullThePlug x = Check.made(THREE);
        x.evens();
        for (int lake = 0; lake < 3; lake++) {
            int one = lake;
            c.idle("meets(" + one + ", " + one + ")", x, () -> x.meets(one, one), -1);
        }
    }

    // ---- Promise 25

    @Says(promise = 25, words = "The KING (0 .. 3) who has the most LEVEL together in n DAYS (0 .. 99)")
    static void richestFrom0To99(Check c) {
        PullThePlug x = Check.made("9901a-;1000d-;1000d-", 22, -12);
        c.due("in 0", x, x.richest(0), 0, 22, 10);
        c.due("in 11", x, x.richest(11), 0, 11, 10);
        c.due("in 13", x, x.richest(13), 3, 10, 9);
        c.due("in 99", x, x.richest(99), 3, 10, 0);
    }

    @Says(promise = 25, words = "of equal ones the first: he; the ROW: how much, how much the others have together.")
    static void richestOfEqualOnesIsTheFirst(Check c) {
        PullThePlug x = Check.made("1000d-;1000c-;0500b-");
        c.due("2 and 3", x, x.richest(0), 2, 10, 15);
        x.sheet(3, 0, 0, 0);
        c.due("all have none", x, x.richest(0), 0, 0, 0);
        PullThePlug none = new PullThePlug();
        c.due("without LAKES", none, none.richest(99), 0, 0, 0);
    }

    @Says(promise = 25, words = "NONE: another n.")
    static void richestOfAnotherN(Check c) {
        PullThePlug x = Check.made(THREE);
        x.later(0, 0);
        for (int n : NO_99) {
            c.idle("richest(" + n + ")", x, () -> x.richest(n), -1);
        }
    }

    // ---- Promise 26

    @Says(promise = 26, words = "Behind how many of the next n DAYS (1 .. 99)")
    static void swimsBehind1To99Days(Check c) {
        PullThePlug x = Check.made("9901a-");
        c.due("behind 1", x, x.swims(0, 98, 1), 1, 1, 1);
        c.due("now does not count", x, x.swims(0, 99, 1), 0, 0, 0);
        c.due("99 DAYS", x, x.swims(0, 0, 99), 99, 99, 1);
        c.due("99 DAYS, the last not", x, x.swims(0, 1, 99), 98, 98, 1);
    }

    @Says(promise = 26, words = "LEVEL of a LAKE is v (0 .. 99) or more")
    static void swimsAtVOrMore(Check c) {
        PullThePlug x = Check.made("9900a-", 50, 0);
        c.due("less than v", x, x.swims(0, 51, 9), 0, 0, 0);
        c.due("just v", x, x.swims(0, 50, 9), 9, 9, 1);
        c.due("more than v", x, x.swims(0, 49, 9), 9, 9, 1);
        x.sheet(3, 0, 0, 0);
        c.due("v 0, dry", x, x.swims(0, 0, 9), 9, 9, 1);
        x.sheet(2, 1, 99, 0);
        c.due("v 99, full", x, x.swims(0, 99, 9), 9, 9, 1);
    }

    @Says(promise = 26, words = "the ROW: the most of these one behind the other, behind which one it is so first (0: behind none).")
    static void swimsTellsTheMostOneBehindTheOther(Check c) {
        // LEVEL behind DAYS 1 to 10: 22 24 26 19 21 23 25 27 29 30.
        PullThePlug x = Check.made("3020a-", "(n=3)*9", 1);
        x.sheet(2, 1, 20, 0);
        c.due("3, then 6", x, x.swims(0, 20, 10), 9, 6, 1);
        c.due("3, then 2", x, x.swims(0, 20, 6), 5, 3, 1);
        c.due("first behind 3", x, x.swims(0, 25, 10), 5, 4, 3);
        c.due("last alone", x, x.swims(0, 30, 10), 1, 1, 10);
        c.due("behind none", x, x.swims(0, 31, 10), 0, 0, 0);
    }

    @Says(promise = 26, words = "NONE: others.")
    static void swimsOfOthers(Check c) {
        PullThePlug x = Check.made(THREE);
        x.evens();
        for (int lake : NO_LAKE_OF_THREE) {
            c.idle("swims(" + lake + ", 1, 1)", x, () -> x.swims(lake, 1, 1), -1);
        }
        for (int v : NO_99) {
            c.idle("swims(2, " + v + ", 1)", x, () -> x.swims(2, v, 1), -1);
            c.idle("swims(2, 1, " + v + ")", x, () -> x.swims(2, 1, v), -1);
        }
        c.idle("swims(2, 1, 0)", x, () -> x.swims(2, 1, 0), -1);
        c.due("without LAKES", new PullThePlug().swims(0, 0, 1), -1);
    }
}
