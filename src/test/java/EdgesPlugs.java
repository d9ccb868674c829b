/** Boundary cases that promises 27 to 31 name: the fewest plugs, taps that hold a level, who is crossed. */
final class EdgesPlugs {
    private static final String THREE = "3020a-;1201b0;2010a0";
    private static final String TENS = "1000a-;1000a-;1000a-";
    private static final int[] NO_LAKE_OF_THREE = {-1, 3, 5, 6, 31, 32, Integer.MIN_VALUE, Integer.MAX_VALUE};
    private static final int[] NO_SET_OF_THREE = {-1, 8, 9, 15, 64, Integer.MIN_VALUE, Integer.MAX_VALUE};
    private static final int[] NO_40 = {-1, 41, Integer.MIN_VALUE, Integer.MAX_VALUE};

    // ---- Promise 27

    @Says(promise = 27, words = "by which LEVEL of a LAKE is 0 behind n DAYS (0 .. 40)")
    static void letsFrom0To40(Check c) {
        PullThePlug x = Check.made("4001a-;4101a-", "1", 0);
        c.due("dry in 40", x, x.lets(0, 40), 0, 0);
        c.due("not yet in 39", x, x.lets(0, 39), 1, 1);
        c.due("dry in 41", x, x.lets(1, 40), 1, 2);
        c.due("not dry in 0", x.lets(0, 0), -2);
        x.sheet(2, 2, 0, 5);
        c.due("dry in 0", x, x.lets(0, 0), 0, 0);
    }

    @Says(promise = 27, words = "is 0 behind n DAYS (0 .. 40), nothing else being done: how many")
    static void letsLooksBehindAllTheDays(Check c) {
        // LAKE 0 is dry behind 1 DAY, if LAKE 1 does not let its water into it.
        PullThePlug x = Check.made("9900a-;9900a0", "l*(n<2)", 1);
        c.due("behind 1", x, x.lets(0, 1), 0, 0);
        x.pulls(1);
        c.due("it came behind 1", x, x.lets(0, 1), 1, 2);
        c.due("it went behind 2", x, x.lets(0, 2), 0, 0);
        x.sheet(2, 2, 0, 50);
        c.due("dry now, and not behind 1", x, x.lets(0, 1), 1, 2);
    }

    @Says(promise = 27, words = "The fewest plugs to be touched now (pulled, or put in)")
    static void letsTouchesAreFewestPulledOrPutIn(Check c) {
        PullThePlug x = Check.made(TENS, "(k<2)*9+1", 5);
        c.due("one is put in", x, x.lets(2, 1), 1, 1);
        c.due("two are put in, one is pulled", x, x.lets(1, 1), 3, 7);
        PullThePlug y = Check.made(TENS, "(k=3)*10", 0);
        c.due("all three are pulled", y, y.lets(0, 1), 3, 7);
        y.pulls(1);
        c.due("the other two", y, y.lets(0, 1), 2, 5);
        y.pulls(0);
        y.pulls(2);
        c.due("none", y, y.lets(0, 1), 0, 0);
        PullThePlug z = Check.made(TENS, "l", 0);
        c.due("one alone, though others might be touched, too", z, z.lets(0, 1), 1, 1);
    }

    @Says(promise = 27, words = "the ROW: they (bits: of as few the least).")
    static void letsTellsTheLeastOfAsFew(Check c) {
        PullThePlug x = Check.made(TENS, "(k=2)*10", 4);
        c.due("LAKE 0 or 1", x, x.lets(2, 1), 1, 1);
        PullThePlug y = Check.made(TENS, "(k=2)*10", 2);
        c.due("LAKE 0 or 2", y, y.lets(1, 1), 1, 1);
        PullThePlug z = Check.made(TENS, "(k=2)*10", 0);
        c.due("LAKE 2 with 0 or 1", z, z.lets(2, 1), 2, 5);
    }

    @Says(promise = 27, words = "-2: by none;")
    static void letsByNone(Check c) {
        PullThePlug x = Check.made("1010a-;1000b-", "l", 0);
        x.evens();
        c.idle("TAP 1", x, () -> x.lets(0, 40), -2);
        c.idle("now", x, () -> x.lets(1, 0), -2);
        c.due("in 1", x, x.lets(1, 1), 1, 2);
    }

    @Says(promise = 27, words = "NONE: others.")
    static void letsOfOthers(Check c) {
        PullThePlug x = Check.made(THREE);
        x.evens();
        for (int lake : NO_LAKE_OF_THREE) {
            c.idle("lets(" + lake + ", 1)", x, () -> x.lets(lake, 1), -1);
        }
        for (int n : NO_40) {
            c.idle("lets(2, " + n + ")", x, () -> x.lets(2, n), -1);
        }
        c.due("without LAKES", new PullThePlug().lets(0, 0), -1);
    }

    // ---- Promise 28

    @Says(promise = 28, words = "just some LAKES (bits) are dry behind n DAYS (0 .. 40), all others not.")
    static void justLeavesAllOthersNotDry(Check c) {
        PullThePlug x = Check.made(TENS, "l", 0);
        c.due("none", x, x.just(0, 1), 0, 0);
        c.due("one", x, x.just(2, 1), 1, 2);
        c.due("two", x, x.just(5, 1), 2, 5);
        c.due("all", x, x.just(7, 1), 3, 7);
        x.pulls(1);
        c.due("one, another put in", x, x.just(1, 1), 2, 3);
        c.due("none, one put in", x, x.just(0, 1), 1, 2);
        PullThePlug none = new PullThePlug();
        c.due("none of none", none, none.just(0, 0), 0, 0);
    }

    @Says(promise = 28, words = "are dry behind n DAYS (0 .. 40)")
    static void justFrom0To40(Check c) {
        PullThePlug x = Check.made("4001a-;4101a-", "1", 0);
        c.due("in 0", x, x.just(0, 0), 0, 0);
        c.due("in 39", x, x.just(1, 39), 1, 1);
        c.due("in 40", x, x.just(1, 40), 0, 0);
        c.due("both in 40", x, x.just(3, 40), 1, 2);
        x.sheet(2, 2, 0, 1);
        c.due("dry in 0, the other in 1", x, x.just(1, 0), 0, 0);
    }

    @Says(promise = 28, words = "Likewise by which just some LAKES (bits)")
    static void justTellsTheLeastOfAsFew(Check c) {
        PullThePlug x = Check.made("1000a-;1000a-;1000a-;2000a-;2000a-", "(k=2)*10*(b=10)", 4);
        c.due("LAKE 3 or 4; LAKE 0 or 1 would be dry, too", x, x.just(4, 1), 1, 8);
    }

    @Says(promise = 28, words = "-2: by none;")
    static void justByNone(Check c) {
        PullThePlug x = Check.made("1010a-;1000b-", "l", 0);
        x.evens();
        c.idle("TAP 1", x, () -> x.just(1, 40), -2);
        c.idle("both", x, () -> x.just(3, 40), -2);
        c.idle("now", x, () -> x.just(2, 0), -2);
        x.sheet(3, 0, 0, 0);
        c.idle("none, though all are dry now", x, () -> x.just(0, 0), -2);
    }

    @Says(promise = 28, words = "NONE: others, bits of none such.")
    static void justOfOthers(Check c) {
        PullThePlug x = Check.made(THREE);
        x.evens();
        for (int n : NO_40) {
            c.idle("just(0, " + n + ")", x, () -> x.just(0, n), -1);
        }
    }

    @Says(promise = 28, words = "NONE: others, bits of none such.")
    static void justOfBitsOfNoneSuch(Check c) {
        PullThePlug x = Check.made(THREE);
        x.evens();
        for (int some : NO_SET_OF_THREE) {
            c.idle("just(" + some + ", 1)", x, () -> x.just(some, 1), -1);
        }
        c.due("without LAKES", new PullThePlug().just(1, 1), -1);
        PullThePlug six = Check.made("1001a-;1001a-;1001a-;1001a-;1001a-;1001a-");
        c.due("all six", six, six.just(63, 10), 0, 0);
        c.due("a seventh", six.just(64, 10), -1);
    }

    // ---- Promise 29

    @Says(promise = 29, words = "If just so many plugs (0 .. 6) are out from now on, all others in:")
    static void fillsOf0To6(Check c) {
        PullThePlug x = Check.made("2000a-;2000a-;2000a-;2000a-;2000a-;2000a-", "5", 6);
        c.due("none, though two are out", x, x.fills(0, 1), 120, 0);
        c.due("one", x, x.fills(1, 1), 115, 1);
        c.due("five", x, x.fills(5, 1), 95, 31);
        c.due("six", x, x.fills(6, 1), 90, 63);
        c.due("plugs are as they were", x.count(5), 6);
    }

    @Says(promise = 29, words = "in all LAKES together behind n DAYS (0 .. 40)")
    static void fillsFrom0To40Days(Check c) {
        PullThePlug x = Check.made("9900a-;9900a-", "1", 0);
        c.due("in 0", x, x.fills(2, 0), 198, 3);
        c.due("in 40", x, x.fills(1, 40), 158, 1);
        c.due("both in 40", x, x.fills(2, 40), 118, 3);
    }

    @Says(promise = 29, words = "the most water that can be in all LAKES together")
    static void fillsIsTheMost(Check c) {
        PullThePlug x = Check.made("9900a-;9900a0;9900a-", "9", 0);
        x.sheet(2, 3, 50, 0);
        c.due("LAKE 1 runs into 0", x, x.fills(1, 1), 150, 2);
        c.due("LAKE 1 and another", x, x.fills(2, 1), 141, 3);
    }

    @Says(promise = 29, words = "the ROW: they (bits: of as good ones the least).")
    static void fillsTellsTheLeastOfAsGoodOnes(Check c) {
        PullThePlug x = Check.made(TENS, "2", 0);
        c.due("one", x, x.fills(1, 1), 28, 1);
        c.due("two", x, x.fills(2, 1), 26, 3);
        PullThePlug y = Check.made("1000a-;1010a-;1010a-", "1", 0);
        c.due("1 or 2", y, y.fills(1, 1), 30, 2);
    }

    @Says(promise = 29, words = "-2: there are not so many LAKES;")
    static void fillsOfMoreThanThereAre(Check c) {
        PullThePlug x = Check.made(THREE);
        x.later(0, 0);
        c.idle("four of three", x, () -> x.fills(4, 1), -2);
        c.idle("six of three", x, () -> x.fills(6, 40), -2);
        c.due("three of three", x, x.fills(3, 0), 62, 7);
        PullThePlug none = new PullThePlug();
        c.due("one of none", none.fills(1, 1), -2);
        c.due("none of none", none, none.fills(0, 40), 0, 0);
    }

    @Says(promise = 29, words = "NONE: others.")
    static void fillsOfOthers(Check c) {
        PullThePlug x = Check.made(THREE);
        x.evens();
        int[] others = {-1, 7, Integer.MIN_VALUE, Integer.MAX_VALUE};
        for (int many : others) {
            c.idle("fills(" + many + ", 1)", x, () -> x.fills(many, 1), -1);
        }
        for (int n : NO_40) {
            c.idle("fills(1, " + n + ")", x, () -> x.fills(1, n), -1);
        }
    }

    // ---- Promise 30

    @Says(promise = 30, words = "The least TAP (0 .. 9) of a LAKE")
    static void needsIsFrom0To9(Check c) {
        PullThePlug x = Check.made("9950a-", 10, 0);
        c.due("10", x, x.needs(0, 10, 1), 0, 10);
        c.due("11", x, x.needs(0, 11, 1), 1, 11);
        c.due("19", x, x.needs(0, 19, 1), 9, 19);
        c.due("20", x.needs(0, 20, 1), -2);
        c.due("TAP is as it was", Check.lakeOf(x, 0, 1), 5);
    }

    @Says(promise = 30, words = "its LEVEL is v (0 .. 99) or more behind n DAYS (0 .. 60)")
    static void needsVOrMoreBehind0To60Days(Check c) {
        PullThePlug x = Check.made("9901a-", 50, 0);
        c.due("v 0, n 0", x, x.needs(0, 0, 0), 0, 50);
        c.due("just v in 0", x, x.needs(0, 50, 0), 0, 50);
        c.due("more than v", x, x.needs(0, 63, 5), 4, 65);
        c.due("n 60", x, x.needs(0, 50, 60), 1, 50);
        c.due("v 99", x, x.needs(0, 99, 60), 2, 99);
    }

    @Says(promise = 30, words = "it; the ROW: LEVEL then.")
    static void needsTellsLevelThen(Check c) {
        PullThePlug x = Check.made("2000a-;3000a-", 1, 0);
        c.due("not above BRIM", x, x.needs(0, 20, 9), 3, 20);
        c.due("more than was asked", x, x.needs(1, 20, 9), 3, 28);
    }

    @Says(promise = 30, words = "-2: by none;")
    static void needsByNone(Check c) {
        PullThePlug x = Check.made("2000a-", 1, 0);
        x.evens();
        c.idle("more than now", x, () -> x.needs(0, 2, 0), -2);
        c.idle("more than 9 in 1", x, () -> x.needs(0, 11, 1), -2);
        c.idle("more than BRIM", x, () -> x.needs(0, 21, 60), -2);
    }

    @Says(promise = 30, words = "NONE: others.")
    static void needsOfOthers(Check c) {
        PullThePlug x = Check.made(THREE);
        x.evens();
        for (int lake : NO_LAKE_OF_THREE) {
            c.idle("needs(" + lake + ", 1, 1)", x, () -> x.needs(lake, 1, 1), -1);
        }
        int[] levels = {-1, 100, Integer.MIN_VALUE, Integer.MAX_VALUE};
        for (int v : levels) {
            c.idle("needs(2, " + v + ", 1)", x, () -> x.needs(2, v, 1), -1);
        }
        int[] days = {-1, 61, Integer.MIN_VALUE, Integer.MAX_VALUE};
        for (int n : days) {
            c.idle("needs(2, 1, " + n + ")", x, () -> x.needs(2, 1, n), -1);
        }
        c.due("without LAKES", new PullThePlug().needs(0, 0, 0), -1);
    }

    // ---- Promise 31

    @Says(promise = 31, words = "lowers LEVEL of all together in n DAYS (1 .. 40) the most against nothing being done")
    static void crossesFrom1To40Days(Check c) {
        PullThePlug x = Check.made("9900a-", "1", 0);
        c.due("in 1", x, x.crosses(1), 0, 1001);
        c.due("in 40", x, x.crosses(40), 0, 1040);
        PullThePlug y = Check.made("9901a-;9900b-", "1+t", 0);
        y.taps(1, 2);
        y.sheet(2, 2, 50, 0);
        c.due("the most", y, y.crosses(2), 1, 1006);
    }

    @Says(promise = 31, words = "The LAKE whose plug, pulled now (if it is in), or HAIR, taken out (if its plug is out)")
    static void crossesPullsOrTakesHairOut(Check c) {
        PullThePlug x = Check.made("9900a-;9900b-", "9-h", 1);
        x.days(5);
        x.sheet(2, 2, 50, 0);
        c.due("LAKE 1 lets out 9, LAKE 0 without HAIR 5 more", x, x.crosses(1), 1, 1009);
        x.pulls(1);
        c.due("LAKE 0 without HAIR; LAKE 1 has none", x, x.crosses(1), 0, 1005);
        PullThePlug in = Check.made("9900a-", "9-h", 1);
        in.days(5);
        in.stops(0);
        in.sheet(2, 1, 50, 0);
        c.due("pulled with its HAIR", in, in.crosses(1), 0, 1004);
    }

    @Says(promise = 31, words = "of equal ones the first: it;")
    static void crossesOfEqualOnesIsTheFirst(Check c) {
        PullThePlug x = Check.made(TENS, "3", 0);
        c.due("all alike", x, x.crosses(1), 0, 1003);
        PullThePlug y = Check.made("1000a-;2000a-;2000a-", "b", 0);
        c.due("1 and 2 alike", y, y.crosses(1), 1, 1020);
        y.sheet(3, 0, 0, 0);
        c.due("none lowers it", y, y.crosses(40), 0, 1000);
    }

    @Says(promise = 31, words = "the ROW: 1000 and by how much (below 1000: it is more).")
    static void crossesBelow1000(Check c) {
        PullThePlug x = Check.made("5000a-", "(h=1)*5", 1);
        x.days(1);
        c.due("without HAIR nothing runs out", x, x.crosses(1), 0, 995);
        PullThePlug y = Check.made("5000a-;5000b-", "(h=1)*5", 3);
        y.days(1);
        y.sheet(2, 2, 50, -47);
        c.due("5 more for 0, 3 more for 1", y, y.crosses(1), 1, 997);
    }

    @Says(promise = 31, words = "-2: there are no LAKES;")
    static void crossesWithoutLakes(Check c) {
        PullThePlug none = new PullThePlug();
        c.idle("in 1", none, () -> none.crosses(1), -2);
        c.idle("in 40", none, () -> none.crosses(40), -2);
    }

    @Says(promise = 31, words = "NONE: another n.")
    static void crossesOfAnotherN(Check c) {
        PullThePlug x = Check.made(THREE);
        x.later(0, 0);
        for (int n : NO_40) {
            c.idle("crosses(" + n + ")", x, () -> x.crosses(n), -1);
        }
        c.idle("crosses(0)", x, () -> x.crosses(0), -1);
    }
}
