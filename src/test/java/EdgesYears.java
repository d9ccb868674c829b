/** Boundary cases that promises 42 to 46 name: a duck, spoons, kings at rest, another rule, years drawn by a seed. */
final class EdgesYears {
    private static final String THREE = "3020a-;1201b0;2010a0";
    private static final String FORTY = "1+1+1+1+1+1+1+1+1+1+1+1+1+1+1+1+1+1+1+99";
    private static final int[] NO_LAKE_OF_THREE = {-1, 3, 5, 6, 31, 32, Integer.MIN_VALUE, Integer.MAX_VALUE};

    // ---- Promise 42

    @Says(promise = 42, words = "how likely it is on another one (or the same) behind n (0 .. 10) DAYS: 0; the ROW: the fraction.")
    static void duckBehind0To10Days(Check c) {
        PullThePlug x = Check.made("1000a-;1000a0;1000a1");
        c.due("on the same in 0", x, x.duck(2, 2, 0), 0, 1, 1);
        c.due("on another in 0", x, x.duck(2, 1, 0), 0, 0, 1);
        c.due("on the same in 1", x, x.duck(1, 1, 1), 0, 0, 1);
        c.due("on another in 1", x, x.duck(1, 2, 1), 0, 1, 2);
        c.due("on the same in 10", x, x.duck(0, 0, 10), 0, 1, 2);
        c.due("in the middle in 10", x, x.duck(1, 1, 10), 0, 1, 1);
        c.due("in the middle in 9", x, x.duck(1, 1, 9), 0, 0, 1);
    }

    @Says(promise = 42, words = "each as likely, to its DOWN or to one whose DOWN it is")
    static void duckGoesEachWayAsLikely(Check c) {
        PullThePlug x = Check.made("1000a-;1000a0;1000a1;1000a1;1000a1;1000a1");
        c.due("down, one of five", x, x.duck(1, 0, 1), 0, 1, 5);
        c.due("up, one of five", x, x.duck(1, 5, 1), 0, 1, 5);
        c.due("up, the only way", x, x.duck(0, 1, 1), 0, 1, 1);
        c.due("down, the only way", x, x.duck(5, 1, 1), 0, 1, 1);
        PullThePlug y = Check.made("1000a-;1000a0;1000a0;1000a0;1000a3;1000a3");
        c.due("a third of a third", y, y.duck(1, 4, 3), 0, 1, 9);
        c.due("ten DAYS", y, y.duck(0, 0, 10), 0, 35839, 59049);
    }

    @Says(promise = 42, words = "(it stays, if there is none)")
    static void duckStaysIfThereIsNoWay(Check c) {
        PullThePlug x = Check.made("1000a-;1000a-;1000a1");
        c.due("it stays a DAY", x, x.duck(0, 0, 1), 0, 1, 1);
        c.due("it stays", x, x.duck(0, 0, 10), 0, 1, 1);
        c.due("it is on no other", x, x.duck(0, 1, 10), 0, 0, 1);
        c.due("one that has a way does not stay", x, x.duck(1, 1, 1), 0, 0, 1);
    }

    @Says(promise = 42, words = "NONE: others.")
    static void duckOfOthers(Check c) {
        PullThePlug x = Check.made(THREE);
        x.evens();
        for (int lake : NO_LAKE_OF_THREE) {
            c.idle("duck(" + lake + ", 1, 1)", x, () -> x.duck(lake, 1, 1), -1);
            c.idle("duck(1, " + lake + ", 1)", x, () -> x.duck(1, lake, 1), -1);
        }
        int[] days = {-1, 11, Integer.MIN_VALUE, Integer.MAX_VALUE};
        for (int n : days) {
            c.idle("duck(1, 1, " + n + ")", x, () -> x.duck(1, 1, n), -1);
        }
        c.due("without LAKES", new PullThePlug().duck(0, 0, 0), -1);
    }

    // ---- Promise 43

    @Says(promise = 43, words = "A pirate takes with a spoon that holds v (1 .. 9) from a LAKE each DAY")
    static void spoonsHold1To9(Check c) {
        PullThePlug x = Check.made("9900a-");
        c.due("1", x, x.spoon(0, 1, 5), 94, 5);
        c.due("9", x, x.spoon(0, 9, 5), 54, 45);
    }

    @Says(promise = 43, words = "LEVEL of the LAKE in n DAYS (0 .. 60); the ROW: how much he took.")
    static void spoonIn0To60Days(Check c) {
        PullThePlug x = Check.made("9901a-;0500b-");
        c.due("in 0", x, x.spoon(0, 9, 0), 99, 0);
        c.due("in 1", x, x.spoon(0, 9, 1), 89, 9);
        PullThePlug y = Check.made("9900a-");
        c.due("in 60", y, y.spoon(0, 1, 60), 39, 60);
        c.due("LEVEL is as it was", y.count(4), 99);
    }

    @Says(promise = 43, words = "what the spoon holds (or what there is)")
    static void spoonTakesWhatThereIs(Check c) {
        PullThePlug x = Check.made("9900a-", 20, 0);
        c.due("9, 9, 2, 0", x, x.spoon(0, 9, 4), 0, 20);
        PullThePlug y = Check.made("9930a-", 0, 0);
        c.due("0, 3, 3, 3", y, y.spoon(0, 5, 4), 3, 9);
    }

    @Says(promise = 43, words = "each DAY, ahead of it")
    static void spoonGoesAheadOfTheDay(Check c) {
        PullThePlug x = Check.made("9900a-", "l/2", 1);
        x.sheet(2, 1, 29, 0);
        c.due("half of 20 runs out", x, x.spoon(0, 9, 1), 10, 9);
        PullThePlug y = Check.made("1090a-");
        c.due("what TAP brings has room", y, y.spoon(0, 9, 1), 10, 9);
    }

    @Says(promise = 43, words = "NONE: others.")
    static void spoonOfOthers(Check c) {
        PullThePlug x = Check.made(THREE);
        x.evens();
        for (int lake : NO_LAKE_OF_THREE) {
            c.idle("spoon(" + lake + ", 1, 1)", x, () -> x.spoon(lake, 1, 1), -1);
        }
        int[] spoons = {-1, 0, 10, Integer.MIN_VALUE, Integer.MAX_VALUE};
        for (int v : spoons) {
            c.idle("spoon(2, " + v + ", 1)", x, () -> x.spoon(2, v, 1), -1);
        }
        int[] days = {-1, 61, Integer.MIN_VALUE, Integer.MAX_VALUE};
        for (int n : days) {
            c.idle("spoon(2, 1, " + n + ")", x, () -> x.spoon(2, 1, n), -1);
        }
        c.due("without LAKES", new PullThePlug().spoon(0, 1, 0), -1);
    }

    // ---- Promise 44

    @Says(promise = 44, words = "who pulls more has v (0 .. 20)")
    static void restsOf0To20(Check c) {
        PullThePlug x = new PullThePlug();
        int[] many = {4, 5, 4, 0, 1};
        for (int v = 0; v <= 20; v++) {
            c.due("rests(" + v + ")", x.rests(v), v < many.length ? many[v] : 0);
        }
    }

    @Says(promise = 44, words = "Two kings pull x and y (0 .. 9) links;")
    static void linksGoFrom0To9(Check c) {
        PullThePlug x = new PullThePlug();
        c.due("0 links are a number", x, x.rests(0), 4, 0, 0);
        // If 4 or 5 were the most, both would rest there by 20.
        c.due("more than 5 links, too", x, x.rests(20), 0);
    }

    @Says(promise = 44, words = "both by half (cut) if like;")
    static void halfIsCut(Check c) {
        PullThePlug x = new PullThePlug();
        // By half of 1 cut, 0 gains nothing by pulling 1 against 1; by 1, or by a true half, he would.
        c.due("rests(1)", x, x.rests(1), 5, 0, 1);
        // Half of 3 cut is 1, so 3 against 3 is no rest; by 2 it would be one.
        c.due("rests(3)", x, x.rests(3), 0);
    }

    @Says(promise = 44, words = "each pays the square of its own by 4 (cut)")
    static void squaresByFourAreCut(Check c) {
        PullThePlug x = new PullThePlug();
        // 1 link costs nothing, so four pairs rest; if it cost something, 0 and 0 alone would.
        c.due("rests(0)", x, x.rests(0), 4, 0, 0);
        // 3 links cost 2, and so much is half of 4.
        c.due("rests(4)", x, x.rests(4), 1, 3, 3);
    }

    @Says(promise = 44, words = "and 2 if both pull 5 or more.")
    static void twoIsPaidOnlyIfBothPullFive(Check c) {
        PullThePlug x = new PullThePlug();
        // If he alone who pulls 5 or more paid 2, some pair would rest by 8.
        c.due("rests(8)", x, x.rests(8), 0);
    }

    @Says(promise = 44, words = "Pairs by which neither would have more by another number alone: how many; the ROW: the least (nothing without).")
    static void restsTellTheLeastPairOrNothing(Check c) {
        PullThePlug x = new PullThePlug();
        c.due("as much by another number is a rest still", x, x.rests(2), 4, 1, 1);
        c.due("0 1 is less than 1 0", x, x.rests(1), 5, 0, 1);
        c.due("nothing without", x, x.rests(20), 0);
    }

    @Says(promise = 44, words = "NONE: another v.")
    static void restsOfAnotherV(Check c) {
        PullThePlug x = Check.made(THREE);
        x.later(0, 0);
        int[] others = {-1, 21, Integer.MIN_VALUE, Integer.MAX_VALUE};
        for (int v : others) {
            c.idle("rests(" + v + ")", x, () -> x.rests(v), -1);
        }
    }

    // ---- Promise 45

    @Says(promise = 45, words = "THE TEXT is another RULE (an empty one: none)")
    static void anEmptyLawIsNone(Check c) {
        PullThePlug x = Check.made("9900a-", "0", 1);
        // By thirds less HAIR: 33, 21, 13, 8, 4, 2, 0 run out.
        c.due("an empty one", x, Check.law(x, ""), -81, 18, 99);
        c.due("THE RULE is as it was", Check.lakeOf(x, 0, 8), 0);
        Check.rule(x, "");
        c.due("an empty one against none", x, Check.law(x, ""), 0, 18, 18);
        c.due("0 against none", x, Check.law(x, "0"), 81, 99, 18);
    }

    @Says(promise = 45, words = "LEVEL of all together in 12 DAYS by it, nothing being done, less that by THE RULE (below 0, too);")
    static void lawIsOf12DaysAndMayBeBelow0(Check c) {
        PullThePlug x = Check.made("9900a-", "2", 1);
        c.due("12 less", x, Check.law(x, "3"), -12, 63, 75);
        c.due("24 more", x, Check.law(x, "0"), 24, 99, 75);
        c.due("the same", x, Check.law(x, "4/2"), 0, 75, 75);
        c.due("-1 is no refusal", x, Check.law(x, "2+(h=9)*(n=2)"), -1, 74, 75);
        PullThePlug none = new PullThePlug();
        c.due("without LAKES", none, Check.law(none, "3"), 0, 0, 0);
    }

    @Says(promise = 45, words = "-10000 - p: the sign at p can't stand there (as rule()).")
    static void aSignThatCantStandInALaw(Check c) {
        PullThePlug x = Check.made(THREE, "5", 1);
        x.later(0, 0);
        String[] texts = {"x", "l+", "l<b<h", "(l", "(((((l", "1000", FORTY + "9", FORTY.substring(0, 38) + "1+9", ")"};
        int[] places = {0, 2, 3, 2, 4, 3, 40, 40, 0};
        for (int i = 0; i < texts.length; i++) {
            String text = texts[i];
            c.idle("law " + text, x, () -> Check.law(x, text), -10000 - places[i]);
        }
        c.due("40 signs", Check.law(x, FORTY) > -10000, true);
    }

    // ---- Promise 46

    /** R of the DRAWS, worked out with longs and without sign. */
    private static long next(long r) {
        return (r * 1103515245L + 12345L) & 0xFFFFFFFFL;
    }

    /** Does by other calls what years() tells; there are LAKES. */
    private static void doDrawn(PullThePlug x, int seed, int n) {
        long r = seed & 0xFFFFFFFFL;
        for (int i = 0; i < n; i++) {
            r = next(r);
            long what = (r >> 16) % 4;
            if (what < 2) {
                x.days(1);
                continue;
            }
            r = next(r);
            int lake = (int) ((r >> 16) % x.count(0));
            if (what == 3) {
                r = next(r);
                x.taps(lake, (int) ((r >> 16) % 10));
            } else if (x.stops(lake) < 0) {
                x.pulls(lake);
            }
        }
    }

    private static void drawn(Check c, String lakes, int seed, int n) {
        PullThePlug asked = Check.made(lakes);
        PullThePlug done = Check.made(lakes);
        doDrawn(done, seed, n);
        // What was drawn for another question does not matter.
        asked.years(seed + 1, 60);
        c.due("years(" + seed + ", " + n + ")", asked, asked.years(seed, n), done.count(4), done.count(2), done.count(3));
    }

    @Says(promise = 46, words = "n times (1 .. 60): a DRAW of 4 tells")
    static void yearsOf1To60Times(Check c) {
        for (int seed = 0; seed < 20; seed++) {
            drawn(c, THREE, seed, 1);
            drawn(c, THREE, seed, 2);
            drawn(c, THREE, seed, 60);
            drawn(c, "0501a-;0502b0;0503c1;0504d2;0505a3;0506b4", seed, 60);
        }
    }

    /** A seed whose first DRAW of 4 is what, and whose next ones of many, of 10 are these. */
    private static int seedOf(int what, int many, int lake, int tap) {
        for (int seed = 0; seed < 100000; seed++) {
            long one = next(seed);
            long two = next(one);
            if ((one >> 16) % 4 == what && (two >> 16) % many == lake && (next(two) >> 16) % 10 == tap) {
                return seed;
            }
        }
        throw new IllegalStateException("no such seed");
    }

    @Says(promise = 46, words = "0, 1: A DAY; 2: a DRAW of LAKES one whose plug is pulled, or put in, if it is out; 3: a DRAW of LAKES one, a DRAW of 10 its TAP")
    static void whatADrawOfFourTells(Check c) {
        PullThePlug x = Check.made("9901a-;9902b-;9903c-");
        c.due("0: A DAY", x, x.years(seedOf(0, 3, 0, 0), 1), 297 - 6, 0, 0);
        c.due("1: A DAY", x, x.years(seedOf(1, 3, 0, 0), 1), 297 - 6, 0, 0);
        c.due("2: no DAY", x, x.years(seedOf(2, 3, 0, 0), 1), 297, 0, 0);
        c.due("3: no DAY", x, x.years(seedOf(3, 3, 0, 0), 1), 297, 0, 0);
        for (int lake = 0; lake < 3; lake++) {
            drawn(c, THREE, seedOf(2, 3, lake, 0), 9);
            drawn(c, THREE, seedOf(3, 3, lake, 9), 9);
            drawn(c, THREE, seedOf(3, 3, lake, 0), 9);
        }
    }

    @Says(promise = 46, words = "(2, 3: nothing, no DRAWS more, without LAKES)")
    static void yearsWithoutLakes(Check c) {
        PullThePlug none = new PullThePlug();
        for (int seed = -30; seed < 30; seed++) {
            c.due("years(" + seed + ", 60)", none, none.years(seed, 60), 0, 0, 0);
        }
        c.due("DAY", none.count(1), 0);
        for (int seed = 0; seed < 9; seed++) {
            // With one LAKE it is drawn which one all the same.
            drawn(c, "9951a-", seed, 60);
        }
    }

    @Says(promise = 46, words = "LEVEL of all together then; the ROW: SPILT more, DRIED more in these.")
    static void yearsTellSpiltAndDriedInThese(Check c) {
        PullThePlug x = Check.made("9990a-;0101b-");
        c.due("SPILT, DRIED ahead", x, x.days(10), 99, 90, 1);
        // A DRAW of 4 by seed 0 is 0: A DAY.
        c.due("a DAY alone", x, x.years(0, 1), 99, 9, 0);
        PullThePlug dries = Check.made("9990a-;0101b-");
        c.due("one becomes dry", dries, dries.years(0, 1), 99, 9, 1);
        PullThePlug full = Check.made("9990a-;9990a-;9990a-;9990a-;9990a-;9990a-");
        for (int i = 0; i < 4; i++) {
            full.days(60);
        }
        c.due("SPILT is 9999 at most", full, full.years(0, 1), 6 * 99, 0, 0);
    }

    @Says(promise = 46, words = "NONE: another n.")
    static void yearsOfAnotherN(Check c) {
        PullThePlug x = Check.made(THREE);
        x.later(0, 0);
        int[] others = {-1, 0, 61, Integer.MIN_VALUE, Integer.MAX_VALUE};
        for (int n : others) {
            c.idle("years(1, " + n + ")", x, () -> x.years(1, n), -1);
        }
    }

    @Says(promise = 46, words = "R = R times 1103515245 + 12345 (as ints; R is seed at first), (R without sign, by 65536) % n.")
    static void drawsGoRoundAsIntsAndAreWithoutSign(Check c) {
        int[] seeds = {-1, -2, -12345, 1 << 30, Integer.MIN_VALUE, Integer.MAX_VALUE, 2, 3, 5, 77, 12345678};
        for (int seed : seeds) {
            for (int n = 1; n <= 9; n++) {
                drawn(c, THREE, seed, n);
            }
            drawn(c, "4010a-;3050b0;2030c0;1001d1;0902a2;0801b-", seed, 60);
        }
    }
}
