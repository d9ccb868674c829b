/** Boundary cases that promises 8 to 15 name: days, plugs, hair, taps, chains, years told as texts, undone. */
final class EdgesDays {
    private static final String THREE = "3020a-;1201b0;2010a0";
    private static final int[] NO_LAKE_OF_THREE = {-1, 3, 5, 6, 31, 32, Integer.MIN_VALUE, Integer.MAX_VALUE};
    private static final String SIXTY = "n0".repeat(29) + "n1";

    // ---- Promise 8

    @Says(promise = 8, words = "n DAYS (0 .. 60): LEVEL of all together then;")
    static void daysFrom0To60(Check c) {
        PullThePlug x = Check.made("9901a-");
        c.due("0", x, x.days(0), 99, 0, 0);
        c.due("DAY", x.count(1), 0);
        c.due("1", x, x.days(1), 98, 0, 0);
        c.due("60", x, x.days(60), 38, 0, 0);
        c.due("DAY 61", x.count(1), 61);
        PullThePlug none = new PullThePlug();
        c.due("without LAKES", none, none.days(60), 0, 0, 0);
    }

    @Says(promise = 8, words = "SPILT more, DRIED more in these (as much as they grew).")
    static void daysTellHowMuchSpiltAndDriedGrew(Check c) {
        PullThePlug x = Check.made("9990a-;9990a-;9990a-;9990a-;9990a-;0101a-");
        c.due("the first DAY", x, x.days(1), 5 * 99, 45, 1);
        c.due("no more than in these", x, x.days(2), 5 * 99, 90, 0);
        for (int i = 0; i < 3; i++) {
            c.due("60 times 45", x, x.days(60), 5 * 99, 2700, 0);
        }
        c.due("183 times 45", x.count(2), 8235);
        c.due("to 9999", x, x.days(60), 5 * 99, 9999 - 8235, 0);
        c.due("no more", x, x.days(60), 5 * 99, 0, 0);
    }

    @Says(promise = 8, words = "Refused: another n.")
    static void daysOfAnotherN(Check c) {
        PullThePlug x = Check.made(THREE);
        x.later(0, 0);
        int[] others = {-1, 61, 100, Integer.MIN_VALUE, Integer.MAX_VALUE};
        for (int n : others) {
            c.idle("days(" + n + ")", x, () -> x.days(n), -1);
        }
    }

    // ---- Promise 9

    @Says(promise = 9, words = "The plug of a LAKE is pulled: how many are out then.")
    static void pullsTellHowManyAreOut(Check c) {
        PullThePlug x = Check.made("1000a-;1000a-;1000a-;1000a-;1000a-;1000a-");
        for (int i = 0; i < 6; i++) {
            c.due("pulls(" + (5 - i) + ")", x.pulls(5 - i), i + 1);
        }
        c.due("all are out", x.count(5), 63);
    }

    @Says(promise = 9, words = "-2: it is out;")
    static void pullsOfOneThatIsOut(Check c) {
        PullThePlug x = Check.made(THREE);
        x.pulls(1);
        c.idle("pulls(1)", x, () -> x.pulls(1), -2);
        c.due("it is out", x.count(5), 2);
    }

    @Says(promise = 9, words = "NONE: none such.")
    static void pullsOfNoneSuch(Check c) {
        PullThePlug x = Check.made(THREE);
        for (int lake : NO_LAKE_OF_THREE) {
            c.idle("pulls(" + lake + ")", x, () -> x.pulls(lake), -1);
        }
        c.due("without LAKES", new PullThePlug().pulls(0), -1);
        c.due("the last one", x.pulls(2), 1);
    }

    // ---- Promise 10

    @Says(promise = 10, words = "The plug of a LAKE is put in: how many are out then.")
    static void stopsTellHowManyAreOut(Check c) {
        PullThePlug x = Check.made("1000a-;1000a-;1000a-;1000a-;1000a-;1000a-", "0", 63);
        for (int i = 0; i < 6; i++) {
            c.due("stops(" + (5 - i) + ")", x.stops(5 - i), 5 - i);
        }
        c.due("none is out", x.count(5), 0);
    }

    @Says(promise = 10, words = "-2: it is in;")
    static void stopsOfOneThatIsIn(Check c) {
        PullThePlug x = Check.made(THREE);
        x.pulls(0);
        c.idle("stops(1)", x, () -> x.stops(1), -2);
        c.due("plugs that are out", x.count(5), 1);
    }

    @Says(promise = 10, words = "NONE: none such.")
    static void stopsOfNoneSuch(Check c) {
        PullThePlug x = Check.made(THREE, "", 7);
        for (int lake : NO_LAKE_OF_THREE) {
            c.idle("stops(" + lake + ")", x, () -> x.stops(lake), -1);
        }
        c.due("without LAKES", new PullThePlug().stops(0), -1);
        c.due("the last one", x.stops(2), 2);
    }

    // ---- Promise 11

    @Says(promise = 11, words = "HAIR of a LAKE is taken out (0 then): how much there was.")
    static void combsTakeAllHair(Check c) {
        PullThePlug x = Check.made(THREE, "", 6);
        x.days(1);
        c.due("1 of LAKE 1", x.combs(1), 1);
        c.due("0 then", Check.lakeOf(x, 1, 7), 0);
        x.days(9);
        c.due("9 of LAKE 2", x.combs(2), 9);
        c.due("0 then, of 2", Check.lakeOf(x, 2, 7), 0);
        c.due("LAKE 1 has its own", Check.lakeOf(x, 1, 7), 9);
        c.due("plugs are out still", x.count(5), 6);
    }

    @Says(promise = 11, words = "-2: there is none;")
    static void combsWhereThereIsNone(Check c) {
        PullThePlug x = Check.made(THREE);
        c.idle("at first", x, () -> x.combs(1), -2);
        x.pulls(1);
        c.idle("just pulled", x, () -> x.combs(1), -2);
        x.days(3);
        c.due("some", x.combs(1), 3);
        c.idle("taken out", x, () -> x.combs(1), -2);
    }

    @Says(promise = 11, words = "NONE: none such.")
    static void combsOfNoneSuch(Check c) {
        PullThePlug x = Check.made(THREE, "", 7);
        x.days(1);
        for (int lake : NO_LAKE_OF_THREE) {
            c.idle("combs(" + lake + ")", x, () -> x.combs(lake), -1);
        }
        c.due("without LAKES", new PullThePlug().combs(0), -1);
        c.due("the last one", x.combs(2), 1);
    }

    // ---- Promise 12

    @Says(promise = 12, words = "TAP of a LAKE becomes v (0 .. 9): 10 and what it was.")
    static void tapsTell10AndWhatItWas(Check c) {
        PullThePlug x = Check.made("1000a-;1090b-");
        c.due("0 to 9", x.taps(0, 9), 10);
        c.due("9 now", Check.lakeOf(x, 0, 1), 9);
        c.due("9 to 0", x.taps(1, 0), 19);
        c.due("0 now", Check.lakeOf(x, 1, 1), 0);
    }

    @Says(promise = 12, words = "-2: it is so;")
    static void tapsThatAreSo(Check c) {
        PullThePlug x = Check.made("1000a-;1090b-");
        c.idle("0 to 0", x, () -> x.taps(0, 0), -2);
        c.idle("9 to 9", x, () -> x.taps(1, 9), -2);
    }

    @Says(promise = 12, words = "NONE: others.")
    static void tapsOfOthers(Check c) {
        PullThePlug x = Check.made(THREE);
        for (int lake : NO_LAKE_OF_THREE) {
            c.idle("taps(" + lake + ", 5)", x, () -> x.taps(lake, 5), -1);
        }
        int[] others = {-1, 10, Integer.MIN_VALUE, Integer.MAX_VALUE};
        for (int v : others) {
            c.idle("taps(2, " + v + ")", x, () -> x.taps(2, v), -1);
        }
        c.due("without LAKES", new PullThePlug().taps(0, 5), -1);
        c.due("the last one", x.taps(2, 9), 11);
    }

    // ---- Promise 13

    @Says(promise = 13, words = "The chain of a LAKE is given to another KING (0 .. 3): 10 and who had it.")
    static void givesTell10AndWhoHadIt(Check c) {
        PullThePlug x = Check.made("1000a-;1000d-");
        c.due("0 to 3", x.gives(0, 3), 10);
        c.due("3 now", Check.lakeOf(x, 0, 3), 3);
        c.due("3 to 0", x.gives(1, 0), 13);
        c.due("0 now", Check.lakeOf(x, 1, 3), 0);
    }

    @Says(promise = 13, words = "-2: he has it;")
    static void givesToOneWhoHasIt(Check c) {
        PullThePlug x = Check.made("1000a-;1000d-");
        c.idle("0 to 0", x, () -> x.gives(0, 0), -2);
        c.idle("3 to 3", x, () -> x.gives(1, 3), -2);
    }

    @Says(promise = 13, words = "NONE: others.")
    static void givesOfOthers(Check c) {
        PullThePlug x = Check.made(THREE);
        for (int lake : NO_LAKE_OF_THREE) {
            c.idle("gives(" + lake + ", 2)", x, () -> x.gives(lake, 2), -1);
        }
        int[] others = {-1, 4, Integer.MIN_VALUE, Integer.MAX_VALUE};
        for (int king : others) {
            c.idle("gives(2, " + king + ")", x, () -> x.gives(2, king), -1);
        }
        c.due("without LAKES", new PullThePlug().gives(0, 2), -1);
        c.due("the last one", x.gives(2, 3), 10);
    }

    // ---- Promise 14

    private static void refusedYear(Check c, String text, int place) {
        PullThePlug x = Check.made(THREE);
        x.pulls(2);
        x.later(0, 0);
        c.idle("year " + text, x, () -> Check.year(x, text), -1 - place);
    }

    @Says(promise = 14, words = "THE TEXT tells A YEAR (an empty one: nothing)")
    static void anEmptyYearIsNothing(Check c) {
        PullThePlug x = Check.made(THREE);
        c.due("an empty one", x, Check.year(x, ""), 0, 0, 62);
        c.due("not to be undone", x.count(9), 0);
        c.due("DAY", x.count(1), 0);
    }

    @Says(promise = 14, words = "ACTS one behind another, without signs between")
    static void actsStandOneBehindAnother(Check c) {
        PullThePlug x = Check.made(THREE);
        c.due("two ACTS", x, Check.year(x, "p0p1"), 2, 0, 62);
        refusedYear(c, "p0;p1", 2);
        refusedYear(c, "p0 p1", 2);
        refusedYear(c, "p01", 2);
        refusedYear(c, ";p0", 0);
    }

    @Says(promise = 14, words = "n and a digit (days())")
    static void daysInAYearAreADigit(Check c) {
        PullThePlug x = Check.made(THREE);
        c.due("n9", Check.year(x, "n9"), 1);
        c.due("DAY 9", x.count(1), 9);
        c.due("n0", Check.year(x, "n0"), 1);
        c.due("DAY 9 still", x.count(1), 9);
        refusedYear(c, "n/", 1);
        refusedYear(c, "n:", 1);
        refusedYear(c, "n10", 2);
        refusedYear(c, "na", 1);
    }

    @Says(promise = 14, words = "p and a digit (pulls()), s and a digit (stops()), c and a digit (combs())")
    static void plugsAndHairInAYear(Check c) {
        PullThePlug x = Check.made(THREE);
        c.due("p2", x, Check.year(x, "p2"), 1, 0, 62);
        c.due("out", x.count(5), 4);
        x.days(1);
        c.due("c2", Check.year(x, "c2"), 1);
        c.due("no HAIR", x.count(6), 0);
        c.due("s2", Check.year(x, "s2"), 1);
        c.due("in", x.count(5), 0);
        c.due("p3: none such", x, Check.year(x, "p3"), 0, 1, x.count(4));
        c.due("s9: none such", x, Check.year(x, "s9"), 0, 1, x.count(4));
        c.due("c3: none such", x, Check.year(x, "c3"), 0, 1, x.count(4));
        refusedYear(c, "pa", 1);
        refusedYear(c, "s-", 1);
        refusedYear(c, "cc", 1);
    }

    @Says(promise = 14, words = "t and two digits (taps())")
    static void tapsInAYearAreTwoDigits(Check c) {
        PullThePlug x = Check.made(THREE);
        c.due("t09", x, Check.year(x, "t09t20"), 2, 0, 62);
        c.due("TAP of 0", Check.lakeOf(x, 0, 1), 9);
        c.due("TAP of 2", Check.lakeOf(x, 2, 1), 0);
        c.due("t35: none such", x, Check.year(x, "t35"), 0, 1, 62);
        refusedYear(c, "t0", 2);
        refusedYear(c, "t0/", 2);
        refusedYear(c, "t0:", 2);
        refusedYear(c, "t0a", 2);
        refusedYear(c, "ta0", 1);
        refusedYear(c, "t055", 3);
    }

    @Says(promise = 14, words = "g, a digit and a letter a .. d (gives())")
    static void givesInAYearAreADigitAndALetter(Check c) {
        PullThePlug x = Check.made(THREE);
        c.due("g0d, g1a", x, Check.year(x, "g0dg1a"), 2, 0, 62);
        c.due("KING of 0", Check.lakeOf(x, 0, 3), 3);
        c.due("KING of 1", Check.lakeOf(x, 1, 3), 0);
        c.due("g3a: none such", x, Check.year(x, "g3a"), 0, 1, 62);
        refusedYear(c, "g0", 2);
        refusedYear(c, "g0`", 2);
        refusedYear(c, "g0e", 2);
        refusedYear(c, "g00", 2);
        refusedYear(c, "gaa", 1);
    }

    @Says(promise = 14, words = "they are done one by one, till one can't be (it answers below 0): how many were done;")
    static void actsAreDoneTillOneCantBe(Check c) {
        PullThePlug x = Check.made(THREE);
        c.due("all three", x, Check.year(x, "t25n0p2"), 3, 0, 62);
        c.due("the second is -2", x, Check.year(x, "p0p0n9"), 1, 1, 62);
        c.due("no DAY", x.count(1), 0);
        c.due("the second is NONE", x, Check.year(x, "s0p3n9"), 1, 1, 62);
        c.due("no DAY still", x.count(1), 0);
        c.due("the first can't be", x, Check.year(x, "c0n9"), 0, 1, 62);
        c.due("the last can't be", x, Check.year(x, "p0s0s0"), 2, 1, 62);
        c.due("TAP as it is", x, Check.year(x, "t25n9"), 0, 1, 62);
        c.due("KING as he is", x, Check.year(x, "g0an9"), 0, 1, 62);
    }

    @Says(promise = 14, words = "the ROW: 1 if one could not be, else 0; LEVEL of all together then.")
    static void yearTellsIfOneCouldNotBe(Check c) {
        PullThePlug x = Check.made("9901a-");
        c.due("all could be", x, Check.year(x, "n5"), 1, 0, 94);
        c.due("one could not be", x, Check.year(x, "n4s0n9"), 1, 1, 90);
        c.due("none could be", x, Check.year(x, "s0"), 0, 1, 90);
    }

    @Says(promise = 14, words = "-1 - p: the sign at p can't stand there (as lakes(); 60 signs); nothing is done then.")
    static void aSignThatCantStandInAYear(Check c) {
        refusedYear(c, "x", 0);
        refusedYear(c, "n1x", 2);
        refusedYear(c, "n1N1", 2);
        refusedYear(c, "p0t1xs0", 4);
        refusedYear(c, "n1" + (char) 0, 2);
        refusedYear(c, "" + (char) 255, 0);
    }

    @Says(promise = 14, words = "-1 - p: the sign at p can't stand there (as lakes(); 60 signs); nothing is done then.")
    static void aYearThatEndsTooEarly(Check c) {
        String[] texts = {"n", "p", "s", "c", "t", "t0", "g", "g0", "p0n", "n1n1t1"};
        for (String text : texts) {
            refusedYear(c, text, text.length());
        }
        refusedYear(c, SIXTY.substring(0, 59), 59);
        refusedYear(c, SIXTY.substring(0, 58) + "t0", 60);
    }

    @Says(promise = 14, words = "-1 - p: the sign at p can't stand there (as lakes(); 60 signs); nothing is done then.")
    static void aYearOfMoreThan60Signs(Check c) {
        PullThePlug x = Check.made(THREE);
        c.due("60 signs", Check.year(x, SIXTY), 30);
        c.due("DAY", x.count(1), 1);
        refusedYear(c, SIXTY + "n", 60);
        refusedYear(c, SIXTY + "n1", 60);
        refusedYear(c, SIXTY + "x", 60);
        refusedYear(c, SIXTY.substring(0, 58) + "t00", 60);
        refusedYear(c, "n0".repeat(28) + "t00p1", 60);
        refusedYear(c, "n0".repeat(28) + "t00g1a", 60);
        refusedYear(c, SIXTY.substring(0, 58) + "nxn1", 59);
        refusedYear(c, "n1".repeat(40), 60);
        c.due("60 signs that end with three", Check.year(x, "n0".repeat(27) + "t05t04"), 29);
    }

    // ---- Promise 15

    @Says(promise = 15, words = "The latest days(), pulls(), stops(), combs(), taps(), gives(), year()")
    static void undoTakesTheLatestBack(Check c) {
        PullThePlug x = Check.made(THREE);
        x.pulls(2);
        x.days(1);
        x.combs(2);
        x.stops(2);
        x.taps(0, 5);
        x.gives(0, 2);
        Check.year(x, "p1");
        // Other calls are not undone.
        Check.rule(x, "1");
        x.ring(0, 0, 0);
        x.years(1, 60);
        x.keep(0);
        c.due("seven", x.count(9), 7);
        c.due("year()", x.undo(), 6);
        c.due("plugs behind it", x.count(5), 0);
        c.due("gives()", x.undo(), 5);
        c.due("KING behind it", Check.lakeOf(x, 0, 3), 0);
        c.due("taps()", x.undo(), 4);
        c.due("TAP behind it", Check.lakeOf(x, 0, 1), 2);
        c.due("stops()", x.undo(), 3);
        c.due("plugs out behind it", x.count(5), 4);
        c.due("combs()", x.undo(), 2);
        c.due("HAIR behind it", x.count(6), 1);
        c.due("days()", x.undo(), 1);
        c.due("DAY behind it", x.count(1), 0);
        c.due("pulls()", x.undo(), 0);
        c.due("no plug is out behind it", x.count(5), 0);
        c.due("rings stay", x.count(8), 1);
        x.pulls(0);
        c.due("THE RULE stays", Check.lakeOf(x, 0, 8), 1);
    }

    @Says(promise = 15, words = "of 12 that are kept, the latest ones;")
    static void twelveAreKept(Check c) {
        PullThePlug x = Check.made(THREE);
        x.pulls(0);
        x.pulls(1);
        for (int day = 1; day <= 12; day++) {
            x.days(1);
            c.due("kept behind " + day, x.count(9), Math.min(12, 2 + day));
        }
        for (int left = 11; left >= 0; left--) {
            c.due("undo()", x.undo(), left);
            c.due("DAY", x.count(1), left);
        }
        c.due("no more", x.undo(), -1);
        c.due("both plugs are out", x.count(5), 3);
        x.stops(0);
        c.due("one that comes behind is kept", x.undo(), 0);
    }

    @Says(promise = 15, words = "such as were done;")
    static void onlyWhatWasDoneIsKept(Check c) {
        PullThePlug x = Check.made(THREE);
        x.pulls(0);
        x.days(61);
        x.days(-1);
        x.pulls(0);
        x.pulls(3);
        x.stops(1);
        x.combs(0);
        x.taps(0, 2);
        x.taps(0, 10);
        x.gives(0, 0);
        x.gives(0, 4);
        Check.year(x, "x");
        c.due("one", x.count(9), 1);
        c.due("undo()", x.undo(), 0);
        c.due("the plug is in", x.count(5), 0);
    }

    @Says(promise = 15, words = "days() of 1 and more")
    static void noDaysAreNotKept(Check c) {
        PullThePlug x = Check.made(THREE);
        x.days(0);
        c.due("days(0)", x.count(9), 0);
        c.due("undo()", x.undo(), -1);
        x.days(1);
        c.due("days(1)", x.count(9), 1);
        x.days(60);
        c.due("days(60)", x.count(9), 2);
        c.due("60 as one", x.undo(), 1);
        c.due("DAY", x.count(1), 1);
    }

    @Says(promise = 15, words = "year() of which one ACT was done, as one)")
    static void aYearIsUndoneAsOne(Check c) {
        PullThePlug x = Check.made(THREE);
        Check.year(x, "");
        Check.year(x, "s0n9");
        c.due("none of an ACT", x.count(9), 0);
        Check.year(x, "p0n3t05g0b");
        c.due("four ACTS", x.count(9), 1);
        Check.year(x, "n1p0n9");
        c.due("one ACT of three", x.count(9), 2);
        Check.year(x, "n0");
        c.due("an ACT of no DAYS", x.count(9), 3);
        c.due("undo() of no DAYS", x.undo(), 2);
        c.due("DAY 4", x.count(1), 4);
        c.due("undo() of one ACT", x.undo(), 1);
        c.due("DAY 3", x.count(1), 3);
        c.due("undo() of four", x.undo(), 0);
        c.due("DAY 0", x.count(1), 0);
        c.due("plugs", x.count(5), 0);
        c.due("TAP", Check.lakeOf(x, 0, 1), 2);
        c.due("KING", Check.lakeOf(x, 0, 3), 0);
    }

    @Says(promise = 15, words = "(LEVELS, plugs, HAIR, TAPS, KINGS, DAY, SPILT, DRIED are as ahead of it)")
    static void allIsAsAheadOfIt(Check c) {
        PullThePlug x = Check.made("3020a-;0101b0;2010a0");
        Check.year(x, "p0n2");
        long[] ahead = new long[50];
        see(x, ahead);
        Check.year(x, "c0s0p2t05g0dn3");
        c.due("it is another", x.count(2) + x.count(5) + x.count(6) > 0, true);
        c.due("undo()", x.undo(), 1);
        long[] behind = new long[50];
        see(x, behind);
        for (int i = 0; i < 50; i++) {
            c.due("what is seen at " + i, behind[i], ahead[i]);
        }
        c.due("DRIED", x.count(3), 1);
        c.due("undo() of the first", x.undo(), 0);
        c.due("not DRIED", x.count(3), 0);
        c.due("nothing SPILT", x.count(2), 0);
        x.pulls(1);
        x.sheet(3, 0, 0, 0);
        c.due("undo() behind a sheet", x.undo(), 0);
        c.levels("LEVELS as ahead of pulls(1)", x, 30, 1, 20);
    }

    private static void see(PullThePlug x, long[] seen) {
        for (int what = 0; what < 8; what++) {
            seen[what] = x.count(what);
        }
        for (int i = 0; i < 27; i++) {
            seen[8 + i] = Check.lakeOf(x, i / 9, i % 9);
        }
    }

    @Says(promise = 15, words = "how many are left that can be.")
    static void undoTellsHowManyAreLeft(Check c) {
        PullThePlug x = Check.made(THREE);
        x.pulls(0);
        x.pulls(1);
        c.due("one left", x.undo(), 1);
        c.due("count(9)", x.count(9), 1);
        c.due("none left", x.undo(), 0);
        c.due("count(9) then", x.count(9), 0);
    }

    @Says(promise = 15, words = "Refused: none.")
    static void undoOfNone(Check c) {
        PullThePlug x = Check.made(THREE);
        c.idle("undo()", x, x::undo, -1);
        x.pulls(0);
        x.undo();
        c.idle("undo() once more", x, x::undo, -1);
    }

    @Says(promise = 15, words = "(lakes() and again() forget them, if they are not refused;")
    static void lakesAndAgainForget(Check c) {
        PullThePlug x = Check.made(THREE);
        x.pulls(0);
        Check.lakes(x, "10");
        c.due("lakes() that is refused", x.count(9), 1);
        x.again(0);
        c.due("again() that is refused", x.count(9), 1);
        Check.lakes(x, "1000a-");
        c.due("lakes()", x.count(9), 0);
        c.due("undo() behind lakes()", x.undo(), -1);
        c.due("the plug is out", x.count(5), 1);
        x.keep(0);
        x.pulls(1);
        x.keep(1);
        c.due("keep() forgets none", x.count(9), 1);
        x.again(0);
        c.due("again()", x.count(9), 0);
        c.due("undo() behind again()", x.undo(), -1);
    }

    @Says(promise = 15, words = "an empty lakes() does not.)")
    static void anEmptyLakesForgetsNone(Check c) {
        PullThePlug x = Check.made(THREE);
        x.pulls(0);
        c.due("an empty lakes()", Check.lakes(x, ""), 0);
        c.due("one still", x.count(9), 1);
        c.due("undo()", x.undo(), 0);
        c.due("the plug is in", x.count(5), 0);
    }
}
