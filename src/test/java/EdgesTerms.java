import java.util.List;

/** Boundary cases that the document names ahead of its promises (THE RULE has a file of its own). */
final class EdgesTerms {
    private static final String THREE = "3020a-;1201b0;2010a0";
    private static final String SIX = "9990a-;0500b0;0500c1;0500d2;0500a3;0509b4";
    private static final long THROWS = Check.THROWS;

    @Says(promise = 0, words = "An object is used for at most 512 calls after it has been made")
    static void the512thCallIsAnswered(Check c) {
        PullThePlug x = new PullThePlug();
        // end(0), sign, sign, end(6), lakes are the first five calls.
        c.due("lakes()", Check.lakes(x, "9990a-"), 1);
        for (int call = 6; call <= 511; call++) {
            c.due("call " + call, x.days(60), 99);
        }
        c.due("call 512", x.count(1), 506 * 60);
    }

    @Says(promise = 0, words = "public static final int NONE = -1;")
    static void noneIsMinusOne(Check c) throws ReflectiveOperationException {
        // The compiler would put the constant's number here in its place.
        c.due("NONE", PullThePlug.class.getField("NONE").getInt(null), -1);
    }

    // ---- LAKES

    @Says(promise = 0, words = "LAKES 0 .. (at most 6)")
    static void thereAreSixLakesAtMost(Check c) {
        PullThePlug x = Check.made("1000a-;1000a-;1000a-;1000a-;1000a-");
        c.due("a sixth", Check.lakes(x, "1100b-"), 1);
        c.due("its BRIM", Check.lakeOf(x, 5, 0), 11);
        c.due("a seventh", Check.lakes(x, "1200c-"), -1);
        c.due("LAKES", x.count(0), 6);
        c.due("no seventh", Check.lakeOf(x, 6, 0), THROWS);
    }

    @Says(promise = 0, words = "BRIM 1 .. 99")
    static void brimIsFrom1To99(Check c) {
        PullThePlug x = Check.made("0100a-;9900a-");
        c.due("BRIM 1", Check.lakeOf(x, 0, 0), 1);
        c.due("BRIM 99", Check.lakeOf(x, 1, 0), 99);
        c.due("BRIM 0", Check.lakes(x, "0000a-"), -2);
    }

    @Says(promise = 0, words = "TAP 0 .. 9")
    static void tapIsFrom0To9(Check c) {
        PullThePlug x = Check.made("2000a-;2090a-", 0, 0);
        c.due("TAP 0", Check.lakeOf(x, 0, 1), 0);
        c.due("TAP 9", Check.lakeOf(x, 1, 1), 9);
        x.days(1);
        c.levels("a DAY", x, 0, 9);
        c.due("to 9", x.taps(0, 9), 10);
        c.due("to 10", x.taps(0, 10), -1);
        c.due("to 0", x.taps(1, 0), 19);
        c.due("to -1", x.taps(1, -1), -1);
    }

    @Says(promise = 0, words = "LEAK 0 .. 9")
    static void leakIsFrom0To9(Check c) {
        PullThePlug x = Check.made("2000a-;2009a-");
        c.due("LEAK 0", Check.lakeOf(x, 0, 2), 0);
        c.due("LEAK 9", Check.lakeOf(x, 1, 2), 9);
        x.days(1);
        c.levels("a DAY", x, 20, 11);
    }

    @Says(promise = 0, words = "a KING 0 .. 3")
    static void kingIsFrom0To3(Check c) {
        PullThePlug x = Check.made("1000a-;1000d-");
        c.due("a", Check.lakeOf(x, 0, 3), 0);
        c.due("d", Check.lakeOf(x, 1, 3), 3);
        c.due("to 3", x.gives(0, 3), 10);
        c.due("to 4", x.gives(0, 4), -1);
        c.due("to 0", x.gives(1, 0), 13);
        c.due("to -1", x.gives(1, -1), -1);
    }

    @Says(promise = 0, words = "DOWN (another LAKE that came ahead of it, or none)")
    static void downIsALakeAheadOrNone(Check c) {
        PullThePlug x = Check.made("1000a-;1000a0;1000a1");
        c.due("none", Check.lakeOf(x, 0, 4), -1);
        c.due("the first", Check.lakeOf(x, 1, 4), 0);
        c.due("the one just ahead", Check.lakeOf(x, 2, 4), 1);
        c.due("itself", Check.lakes(x, "1000a3"), -6);
        c.due("one behind it", Check.lakes(x, "1000a4;1000a-"), -6);
    }

    @Says(promise = 0, words = "LEVEL 0 .. BRIM (at first BRIM)")
    static void levelIsBrimAtFirstAndStaysWithin(Check c) {
        PullThePlug x = Check.made("1090a-;1009b-");
        c.levels("at first", x, 10, 10);
        x.days(1);
        c.levels("a DAY", x, 10, 1);
        x.days(1);
        c.levels("two DAYS", x, 10, 0);
    }

    @Says(promise = 0, words = "a plug in or out (at first in)")
    static void plugsAreInAtFirst(Check c) {
        PullThePlug x = Check.made("3000a-;3000b-");
        c.due("plug of 0", Check.lakeOf(x, 0, 6), 0);
        c.due("plug of 1", Check.lakeOf(x, 1, 6), 0);
        c.due("plugs that are out", x.count(5), 0);
        c.due("nothing runs out", x.days(1), 60);
        x.pulls(1);
        Check.lakes(x, "3000c-");
        c.due("one that comes later", Check.lakeOf(x, 2, 6), 0);
    }

    @Says(promise = 0, words = "HAIR 0 .. 9 (at first 0)")
    static void hairIs0AtFirstAnd9AtMost(Check c) {
        PullThePlug x = Check.made("3000a-");
        c.due("at first", Check.lakeOf(x, 0, 7), 0);
        x.pulls(0);
        x.days(9);
        c.due("behind 9 DAYS", Check.lakeOf(x, 0, 7), 9);
        x.days(60);
        c.due("behind 69 DAYS", Check.lakeOf(x, 0, 7), 9);
    }

    @Says(promise = 0, words = "They are told by a text of at most 41 signs")
    static void lakesAreToldBy41SignsAtMost(Check c) {
        c.due("41 signs", Check.lakes(new PullThePlug(), SIX), 6);
        c.due("42 signs", Check.lakes(new PullThePlug(), SIX + ";"), -42);
    }

    @Says(promise = 0, words = "LINES with ; between, each one more")
    static void linesHaveSemicolonsBetween(Check c) {
        c.due("one between", Check.lakes(new PullThePlug(), "1000a-;1000a-"), 2);
        c.due("none between", Check.lakes(new PullThePlug(), "1000a-1000a-"), -7);
        c.due("two between", Check.lakes(new PullThePlug(), "1000a-;;1000a-"), -8);
        c.due("another sign between", Check.lakes(new PullThePlug(), "1000a-:1000a-"), -7);
        c.due("one ahead", Check.lakes(new PullThePlug(), ";1000a-"), -1);
        c.due("one behind", Check.lakes(new PullThePlug(), "1000a-;"), -8);
    }

    @Says(promise = 0, words = "two digits (BRIM, not 00)")
    static void brimHasTwoDigitsNot00(Check c) {
        c.due("01", Check.lakes(new PullThePlug(), "0100a-"), 1);
        c.due("10", Check.lakes(new PullThePlug(), "1000a-"), 1);
        c.due("00", Check.lakes(new PullThePlug(), "0000a-"), -2);
        c.due("the sign ahead of 0, first", Check.lakes(new PullThePlug(), "/100a-"), -1);
        c.due("the sign behind 9, first", Check.lakes(new PullThePlug(), ":100a-"), -1);
        c.due("the sign ahead of 0, second", Check.lakes(new PullThePlug(), "1/00a-"), -2);
        c.due("the sign behind 9, second", Check.lakes(new PullThePlug(), "1:00a-"), -2);
    }

    @Says(promise = 0, words = "a digit (TAP), a digit (LEAK)")
    static void tapAndLeakHaveOneDigitEach(Check c) {
        PullThePlug x = Check.made("1009a-;1090a-");
        c.due("TAP 0, LEAK 9", 10 * Check.lakeOf(x, 0, 1) + Check.lakeOf(x, 0, 2), 9);
        c.due("TAP 9, LEAK 0", 10 * Check.lakeOf(x, 1, 1) + Check.lakeOf(x, 1, 2), 90);
        c.due("TAP /", Check.lakes(x, "10/0a-"), -3);
        c.due("TAP :", Check.lakes(x, "10:0a-"), -3);
        c.due("LEAK /", Check.lakes(x, "100/a-"), -4);
        c.due("LEAK :", Check.lakes(x, "100:a-"), -4);
    }

    @Says(promise = 0, words = "a letter a .. d (KING)")
    static void kingIsALetterFromAToD(Check c) {
        PullThePlug x = Check.made("1000a-;1000b-;1000c-;1000d-");
        for (int i = 0; i < 4; i++) {
            c.due("KING of " + i, Check.lakeOf(x, i, 3), i);
        }
        c.due("the sign ahead of a", Check.lakes(x, "1000`-"), -5);
        c.due("the sign behind d", Check.lakes(x, "1000e-"), -5);
        c.due("a large letter", Check.lakes(x, "1000A-"), -5);
    }

    @Says(promise = 0, words = "a digit (DOWN: a LAKE that is there, or in a LINE ahead) or - (none)")
    static void downIsThereOrInALineAhead(Check c) {
        PullThePlug x = Check.made("1000a-");
        c.due("there, and in a LINE ahead", Check.lakes(x, "1000a0;1000a1"), 2);
        c.due("DOWN that was there", Check.lakeOf(x, 1, 4), 0);
        c.due("DOWN that was in a LINE ahead", Check.lakeOf(x, 2, 4), 1);
        c.due("none", Check.lakes(x, "1000a-"), 1);
        c.due("DOWN of none", Check.lakeOf(x, 3, 4), -1);
        c.due("the sign ahead of -", Check.lakes(x, "1000a,"), -6);
        c.due("the sign behind -", Check.lakes(x, "1000a."), -6);
        c.due("the sign ahead of 0", Check.lakes(x, "1000a/"), -6);
        c.due("the LINE's own", Check.lakes(x, "1000a4"), -6);
    }

    @Says(promise = 0, words = "DAY (at first 0)")
    static void dayIs0AtFirst(Check c) {
        c.due("DAY", new PullThePlug().count(1), 0);
        c.due("DAY with LAKES", Check.made(THREE).count(1), 0);
    }

    @Says(promise = 0, words = "SPILT 0 .. 9999 (at first 0)")
    static void spiltIs0AtFirst(Check c) {
        c.due("SPILT", new PullThePlug().count(2), 0);
        c.due("SPILT with LAKES", Check.made(THREE).count(2), 0);
    }

    @Says(promise = 0, words = "DRIED 0 .. 999 (at first 0)")
    static void driedIs0AtFirst(Check c) {
        c.due("DRIED", new PullThePlug().count(3), 0);
        c.due("DRIED with LAKES", Check.made(THREE).count(3), 0);
    }

    // ---- A DAY

    @Says(promise = 0, words = "A DAY, all as it is ahead of it")
    static void aDayTakesAllAsItIsAheadOfIt(Check c) {
        PullThePlug x = Check.made("9900a-;9900a0", "l", 3);
        x.sheet(2, 2, 5, 5);
        x.days(1);
        c.levels("what came does not run on", x, 10, 0);
        PullThePlug hair = Check.made("9900a-", "9-h", 1);
        hair.days(1);
        c.levels("HAIR of this DAY does not hold back", hair, 90);
        PullThePlug day = Check.made("9900a-", "9-n", 1);
        day.days(1);
        c.levels("DAY 0 is not 1 yet", day, 90);
        PullThePlug tap = Check.made("9950a-", "9", 1);
        tap.sheet(3, 0, 0, 0);
        tap.days(1);
        c.levels("TAP does not run out yet", tap, 5);
    }

    @Says(promise = 0, words = "each LAKE loses RUN, and of the rest LEAK (as much as there is)")
    static void leakTakesOfTheRestWhatThereIs(Check c) {
        PullThePlug x = Check.made("9909a-;9909a0", "3", 2);
        x.sheet(2, 2, 0, 5);
        x.days(1);
        c.levels("RUN 3 of 5 goes down, LEAK takes 2", x, 3, 0);
        x.sheet(2, 2, 9, 3);
        x.days(1);
        c.levels("LEAK takes all 9; RUN 3 and LEAK 9 take all 12", x, 3, 0);
        x.sheet(2, 2, 10, 3);
        x.days(1);
        c.levels("LEAK takes 9 of 10; RUN 3 and LEAK 9 take 12 of 13", x, 4, 1);
    }

    @Says(promise = 0, words = "it gets TAP, and RUN of those whose DOWN it is")
    static void tapAndRunsComeIn(Check c) {
        PullThePlug x = Check.made("9910a-;9903a0;9903a0;9903a-", "4", 14);
        x.sheet(2, 4, 0, 20);
        x.days(1);
        c.levels("TAP and twice 4, no LEAK", x, 9, 13, 33, 53);
    }

    @Says(promise = 0, words = "What is above BRIM then is lost")
    static void whatIsAboveBrimIsLost(Check c) {
        PullThePlug x = Check.made("1000a-;1010a0", 3, 6);
        x.days(1);
        c.levels("to BRIM", x, 3, 10);
        c.due("SPILT at BRIM", x.count(2), 0);
        x.days(1);
        c.levels("above BRIM, and not down", x, 3, 10);
        c.due("SPILT above BRIM", x.count(2), 1);
        PullThePlug both = Check.made("1050a-", "5", 1);
        both.days(1);
        c.due("RUN goes ahead of TAP", both.count(2), 0);
        c.levels("it is full still", both, 10);
    }

    @Says(promise = 0, words = "SPILT so much more (9999 at most)")
    static void spiltIs9999AtMost(Check c) {
        PullThePlug x = Check.made("9990a-;9990a-;9990a-;9990a-;9990a-;9990a-");
        x.days(60);
        x.days(60);
        x.days(60);
        c.due("180 times 54", x.count(2), 9720);
        x.days(5);
        c.due("185 times 54", x.count(2), 9990);
        x.days(1);
        c.due("186 times 54 would be more", x.count(2), 9999);
        x.days(60);
        c.due("no more", x.count(2), 9999);
    }

    @Says(promise = 0, words = "HAIR of each one whose plug is out is 1 more (9 at most)")
    static void hairGrowsWherePlugsAreOut(Check c) {
        PullThePlug x = Check.made("9900a-;9900b-;9900c-", "0", 5);
        x.days(1);
        c.due("out", Check.lakeOf(x, 0, 7), 1);
        c.due("in", Check.lakeOf(x, 1, 7), 0);
        c.due("out, too", Check.lakeOf(x, 2, 7), 1);
        x.stops(0);
        x.days(8);
        c.due("put in: it stays", Check.lakeOf(x, 0, 7), 1);
        c.due("9", Check.lakeOf(x, 2, 7), 9);
        x.days(1);
        c.due("9 at most", Check.lakeOf(x, 2, 7), 9);
    }

    @Says(promise = 0, words = "for each one whose LEVEL was above 0 and is 0")
    static void driedCountsThoseThatBecomeDry(Check c) {
        PullThePlug x = Check.made("0101a-;0101b-;0111c-;0201d-");
        x.days(1);
        c.levels("a DAY", x, 0, 0, 1, 1);
        c.due("two became dry", x.count(3), 2);
        x.days(1);
        c.due("one more; dry ones do not count again", x.count(3), 3);
        PullThePlug again = Check.made("0101a-");
        again.days(1);
        again.sheet(2, 1, 1, 0);
        again.days(1);
        c.due("the same one twice", again.count(3), 2);
    }

    @Says(promise = 0, words = "DRIED is 1 more (999 at most)")
    static void driedIs999AtMost(Check c) {
        // The last LAKE lets out every other DAY; those below pass all on, so they are dry every other DAY.
        PullThePlug x = Check.made("0900a-;0900a0;0900a1;0900a2;0900a3;0990a4", "l*(t<1)+l*(n/2*2=n)", 63);
        x.days(60);
        long each = Check.rowOf(x, 1);
        c.due("many in 60 DAYS", each > 100, true);
        long sum = each;
        for (int i = 1; i < 12; i++) {
            x.days(60);
            sum += Check.rowOf(x, 1);
        }
        c.due("DRIED", x.count(3), 999);
        c.due("as much as it grew", sum, 999);
        c.due("no more", x, x.days(60), x.count(4), Check.rowOf(x, 0), 0);
        c.due("DRIED still", x.count(3), 999);
    }

    @Says(promise = 0, words = "DAY is 1 more.")
    static void dayIsOneMore(Check c) {
        PullThePlug x = new PullThePlug();
        x.days(1);
        c.due("without LAKES", x.count(1), 1);
        x.days(60);
        c.due("61", x.count(1), 61);
    }

    // ---- ROW, sets, fractions, questions, refused calls

    @Says(promise = 0, words = "ROW: numbers told last by a call that says so.")
    static void rowStaysTillACallTellsAnother(Check c) {
        PullThePlug x = Check.made(THREE);
        c.due("a new one has none", new PullThePlug().count(10), 0);
        c.due("later(1, 0)", x, x.later(1, 0), 12, 30, 12, 20);
        c.due("pulls(2) tells none", x, x.pulls(2), 1, 30, 12, 20);
        c.due("undo() tells none", x, x.undo(), 0, 30, 12, 20);
        c.due("count(4) tells none", x, x.count(4), 62, 30, 12, 20);
        c.due("sheet() tells none", x, x.sheet(2, 3, 30, -9), 30 + 12 + 12, 30, 12, 20);
        c.due("dries(0) that is -2 tells none", x, x.dries(0), -2, 30, 12, 20);
        c.due("days(61), refused, tells none", x, x.days(61), -1, 30, 12, 20);
        c.due("dries(1) tells one", x, x.dries(1), 12, 50);
        c.due("order(0) tells no numbers", x, x.order(0), 0);
    }

    @Says(promise = 0, words = "Rows of numbers are compared from the first on.")
    static void rowsAreComparedFromTheFirstOn(Check c) {
        PullThePlug x = Check.made("1000a-;1000b-;1000c-");
        c.due("0 2 1 is less than 1 0 2 and 2 0 1", x, Check.heirs(x, "dbd"), 30, 0, 2, 1);
        PullThePlug y = Check.made("9900a-;6090b0", "9*(l=60)", 2);
        y.sheet(2, 2, 0, 60);
        y.ring(0, 2, 9);
        c.due("0 9 is less than 1 1", y, y.leaks(), 10, 0, 0, 9);
    }

    @Says(promise = 0, words = "Sets (of LAKES, KINGS) are bits.")
    static void setsAreBits(Check c) {
        PullThePlug x = Check.made("1000a-;1000a-;1000a-;1000a-;1000a-;2000d-");
        c.due("LAKE 5", x, x.realm(3), 32, 20, 20);
        c.due("LAKES 0 .. 4", x, x.realm(0), 31, 50, 50);
        c.due("KINGS 0 and 3", x, x.treaty(70), 1, 9, 9);
    }

    @Says(promise = 0, words = "Fractions are told in lowest terms, upper and lower number (0 by 1).")
    static void fractionsAreInLowestTerms(Check c) {
        PullThePlug x = Check.made("1000a-;1000a0;1000a0;1000a0;1000a0");
        c.due("0 by 1", x, x.duck(0, 0, 1), 0, 0, 1);
        c.due("0 by 1 at once", x, x.duck(0, 1, 0), 0, 0, 1);
        c.due("1 by 1", x, x.duck(0, 0, 10), 0, 1, 1);
        c.due("1 by 4", x, x.duck(0, 1, 9), 0, 1, 4);
    }

    @Says(promise = 0, words = "Questions change nothing.")
    static void questionsChangeNothing(Check c) {
        PullThePlug x = Check.made(THREE);
        Check.year(x, "p1n3t25g0cp2");
        x.keep(1);
        x.ring(1, 3, 2);
        List<Long> ahead = Check.seen(x);
        ask(x);
        List<Long> behind = Check.seen(x);
        // The last ten numbers are the ROW, which questions tell.
        for (int i = 0; i < ahead.size() - 10; i++) {
            c.due("what is seen at " + i, behind.get(i), ahead.get(i));
        }
        c.due("what was kept is as it was", x.again(1), true);
        List<Long> again = Check.seen(x);
        for (int i = 11; i < ahead.size() - 10; i++) {
            c.due("kept, what is seen at " + i, again.get(i), ahead.get(i));
        }
    }

    private static void ask(PullThePlug x) {
        x.later(1, 9);
        x.dries(1);
        x.brims(0);
        x.marks(2, 9);
        x.realm(0);
        x.course(2);
        x.basin(0);
        x.order(20);
        x.meets(1, 2);
        x.richest(9);
        x.swims(2, 9, 9);
        x.lets(1, 9);
        x.just(2, 9);
        x.fills(2, 9);
        x.needs(1, 9, 9);
        x.crosses(9);
        x.leaks();
        x.reads();
        x.threat(7);
        x.treaty(9);
        x.wants(3);
        x.evens();
        x.feared();
        Check.heirs(x, "abc");
        x.duck(0, 1, 9);
        x.spoon(1, 9, 9);
        x.rests(9);
        Check.law(x, "l");
        x.years(9, 60);
        x.count(4);
    }

    @Says(promise = 0, words = "Refused calls answer NONE, or false, and change nothing but THE TEXT")
    static void refusedCallsChangeNothing(Check c) {
        PullThePlug x = Check.made(THREE);
        Check.year(x, "p1n3t25g0c");
        x.ring(1, 3, 2);
        x.later(1, 9);
        c.idle("end(-1)", x, () -> x.end(-1) ? 1 : 0, 0);
        c.idle("lakes()", x, () -> Check.lakes(x, "1000a-;00"), -9);
        c.idle("rule()", x, () -> Check.rule(x, "5+"), -3);
        c.idle("sheet()", x, () -> x.sheet(4, 1, 1, 1), -1);
        c.idle("days(61)", x, () -> x.days(61), -1);
        c.idle("pulls(3)", x, () -> x.pulls(3), -1);
        c.idle("pulls(1)", x, () -> x.pulls(1), -2);
        c.idle("stops(3)", x, () -> x.stops(3), -1);
        c.idle("stops(0)", x, () -> x.stops(0), -2);
        c.idle("combs(3)", x, () -> x.combs(3), -1);
        c.idle("combs(0)", x, () -> x.combs(0), -2);
        c.idle("taps(0, 10)", x, () -> x.taps(0, 10), -1);
        c.idle("taps(2, 5)", x, () -> x.taps(2, 5), -2);
        c.idle("gives(0, 4)", x, () -> x.gives(0, 4), -1);
        c.idle("gives(0, 2)", x, () -> x.gives(0, 2), -2);
        c.idle("year()", x, () -> Check.year(x, "n1x"), -3);
        c.idle("ring()", x, () -> x.ring(0, 21, 0), -1);
        c.idle("keep(2)", x, () -> x.keep(2) ? 1 : 0, 0);
        c.idle("again(0)", x, () -> x.again(0) ? 1 : 0, 0);
        PullThePlug none = new PullThePlug();
        c.idle("undo() of none", none, none::undo, -1);
    }

    @Says(promise = 0, words = "which a call that reads it empties")
    static void readingEmptiesTheText(Check c) {
        String[] good = {"1000a-", "l", "n1", "ab", "l"};
        for (int call = 0; call < 5; call++) {
            for (int bad = 0; bad < 2; bad++) {
                PullThePlug x = Check.made("1000a-");
                Check.tell(x, bad == 1 ? "x" : good[call]);
                int answer = read(x, call);
                c.due("call " + call + " is refused", answer < 0, bad == 1);
                c.due("signs behind call " + call, x.count(11), 0);
            }
        }
        PullThePlug x = Check.made("1000a-");
        Check.tell(x, "n1");
        x.days(1);
        x.pulls(9);
        x.undo();
        c.due("calls that do not read it leave it", x.count(11), 2);
    }

    private static int read(PullThePlug x, int call) {
        switch (call) {
            case 0:
                return x.lakes();
            case 1:
                return x.rule();
            case 2:
                return x.year();
            case 3:
                return x.heirs();
            default:
                return x.law();
        }
    }
}
