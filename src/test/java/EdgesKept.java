/** Boundary cases that promises 47 to 50 name: what is kept, counted, told. */
final class EdgesKept {
    private static final String THREE = "3020a-;1201b0;2010a0";
    private static final long THROWS = Check.THROWS;
    private static final int[] NO_NUMBER = {-1, 2, 31, 32, 33, Integer.MIN_VALUE, Integer.MAX_VALUE};

    // ---- Promise 47

    @Says(promise = 47, words = "What undo() brings back is kept under a number 0 .. 1: true.")
    static void keepUnder0And1(Check c) {
        PullThePlug x = Check.made("3020a-;0101b0;2010a0");
        c.due("keep(0)", x.keep(0), true);
        Check.year(x, "p0n3t05g0dp2");
        c.due("keep(1)", x.keep(1), true);
        long[] kept = {x.count(1), x.count(2), x.count(3), x.count(4), x.count(5), x.count(6)};
        Check.year(x, "n9c0s0t01g0b");
        c.due("again(1)", x.again(1), true);
        for (int what = 1; what <= 6; what++) {
            c.due("count(" + what + ")", x.count(what), kept[what - 1]);
        }
        c.due("TAP", Check.lakeOf(x, 0, 1), 5);
        c.due("KING", Check.lakeOf(x, 0, 3), 3);
        c.due("again(0)", x.again(0), true);
        c.due("DAY, SPILT, DRIED", x.count(1) + x.count(2) + x.count(3), 0);
        c.levels("at first", x, 30, 1, 20);
        c.due("plugs, HAIR", x.count(5) + x.count(6), 0);
        c.due("TAP at first", Check.lakeOf(x, 0, 1), 2);
        c.due("KING at first", Check.lakeOf(x, 0, 3), 0);
        x.pulls(1);
        c.due("keep(0) over it", x.keep(0), true);
        x.stops(1);
        c.due("the later one", x.again(0), true);
        c.due("its plug", x.count(5), 2);
        c.due("without LAKES", new PullThePlug().keep(1), true);
    }

    @Says(promise = 47, words = "Refused: others.")
    static void keepUnderOthers(Check c) {
        PullThePlug x = Check.made(THREE);
        for (int i : NO_NUMBER) {
            c.idle("keep(" + i + ")", x, () -> x.keep(i) ? 1 : 0, 0);
        }
        c.due("nothing kept under 0", x.again(0), false);
        c.due("nothing kept under 1", x.again(1), false);
    }

    // ---- Promise 48

    @Says(promise = 48, words = "It is as it was kept under a number.")
    static void againIsAsItWasKept(Check c) {
        PullThePlug x = Check.made(THREE);
        x.pulls(1);
        x.keep(0);
        x.days(2);
        x.keep(1);
        x.sheet(3, 0, 0, 0);
        c.due("again(1)", x.again(1), true);
        c.due("DAY", x.count(1), 2);
        c.due("HAIR", x.count(6), 2);
        x.days(9);
        c.due("again(1) once more", x.again(1), true);
        c.due("DAY once more", x.count(1), 2);
        c.due("again(0)", x.again(0), true);
        c.due("DAY of 0", x.count(1), 0);
        c.levels("LEVELS of 0", x, 30, 12, 20);
        c.due("the plug is out", x.count(5), 2);
        PullThePlug none = new PullThePlug();
        none.keep(0);
        none.days(5);
        c.due("without LAKES", none.again(0), true);
        c.due("DAY without LAKES", none.count(1), 0);
    }

    @Says(promise = 48, words = "Refused: nothing kept, LAKES came since.")
    static void againOfNothingKept(Check c) {
        PullThePlug x = Check.made(THREE);
        x.pulls(0);
        c.idle("again(0)", x, () -> x.again(0) ? 1 : 0, 0);
        x.keep(1);
        c.idle("again(0), 1 is kept", x, () -> x.again(0) ? 1 : 0, 0);
        for (int i : NO_NUMBER) {
            c.idle("again(" + i + ")", x, () -> x.again(i) ? 1 : 0, 0);
        }
        c.due("again(1)", x.again(1), true);
        c.due("again(1) once more", x.again(1), true);
    }

    @Says(promise = 48, words = "Refused: nothing kept, LAKES came since.")
    static void againIfLakesCameSince(Check c) {
        PullThePlug x = Check.made("1000a-");
        x.keep(0);
        x.keep(1);
        Check.lakes(x, "");
        c.due("an empty lakes()", x.again(0), true);
        Check.lakes(x, "x");
        c.due("a refused lakes()", x.again(0), true);
        Check.lakes(x, "1000b-");
        x.pulls(1);
        c.idle("LAKES came since, 0", x, () -> x.again(0) ? 1 : 0, 0);
        c.idle("LAKES came since, 1", x, () -> x.again(1) ? 1 : 0, 0);
        c.due("kept anew", x.keep(1), true);
        x.stops(1);
        c.due("again(1)", x.again(1), true);
        c.due("the plug is out", x.count(5), 2);
        c.due("0 is not kept anew", x.again(0), false);
    }

    // ---- Promise 49

    @Says(promise = 49, words = "What 0: LAKES, 1: DAY, 2: SPILT, 3: DRIED, 4: LEVEL of all")
    static void countOfNumbers(Check c) {
        PullThePlug x = Check.made("9990a-;0101a-;9990a-;9990a-;9990a-;0101a-");
        x.days(3);
        int[] want = {6, 3, 3 * 36, 2, 4 * 99};
        for (int what = 0; what < want.length; what++) {
            c.due("count(" + what + ")", x.count(what), want[what]);
        }
    }

    @Says(promise = 49, words = "5: plugs that are out (bits), 6: HAIR of all, 7: LAKES that are dry (bits)")
    static void countOfPlugsHairAndDryOnes(Check c) {
        PullThePlug x = Check.made("9900a-;9900a-;9900a-;9900a-;9900a-;9900a-", "0", 33);
        x.days(9);
        x.sheet(2, 5, 0, 1);
        c.due("plugs", x.count(5), 33);
        c.due("HAIR", x.count(6), 18);
        c.due("dry ones", x.count(7), 33);
        x.sheet(3, 0, 0, 0);
        c.due("all are dry", x.count(7), 63);
        x.sheet(2, 6, 1, 0);
        c.due("none is dry", x.count(7), 0);
    }

    @Says(promise = 49, words = "8: rings, 9: what can be undone, 10: numbers of the ROW, 11: signs of THE TEXT")
    static void countOfRingsAndTexts(Check c) {
        PullThePlug x = Check.made("1000a-;1000a0;1000a1;1000a2;1000a3;1000a4");
        for (int i = 0; i < 12; i++) {
            x.ring(0, 0, 0);
            x.days(1);
        }
        x.course(5);
        Check.tell(x, "n0".repeat(40));
        c.due("rings", x.count(8), 10);
        c.due("what can be undone", x.count(9), 12);
        c.due("numbers of the ROW", x.count(10), 6);
        c.due("signs of THE TEXT", x.count(11), 80);
        x.order(0);
        c.due("no numbers", x.count(10), 0);
        x.end(0);
        c.due("no signs", x.count(11), 0);
    }

    @Says(promise = 49, words = "12: LAKES whose LEVEL is BRIM (bits).")
    static void countOfFullOnes(Check c) {
        PullThePlug x = Check.made("1000a-;1000a-;1000a-;1000a-;1000a-;1100a-");
        c.due("all are full", x.count(12), 63);
        x.sheet(2, 6, 9, 1);
        c.due("9 of 10, and what was put to BRIM", x.count(12), 62);
        x.sheet(2, 6, 10, 0);
        c.due("10 of 11 is not full", x.count(12), 31);
        x.sheet(3, 0, 0, 0);
        c.due("none is full", x.count(12), 0);
    }

    @Says(promise = 49, words = "NONE for another what.")
    static void countOfAnotherWhat(Check c) {
        PullThePlug x = Check.made(THREE);
        int[] others = {-1, 13, Integer.MIN_VALUE, Integer.MAX_VALUE};
        for (int what : others) {
            c.due("count(" + what + ")", x.count(what), -1);
        }
    }

    // ---- Promise 50

    @Says(promise = 50, words = "Number i of the ROW.")
    static void rowTellsEachNumber(Check c) {
        PullThePlug x = Check.made("1000a-;1100a-;1200a-;1300a-;1400a-;1500a-");
        x.later(0, 0);
        for (int i = 0; i < 6; i++) {
            c.due("row(" + i + ")", Check.rowOf(x, i), 10 + i);
        }
        PullThePlug far = Check.made("1000a-;1000a0;1000a1;1000a1;1000a3;1000a3");
        far.duck(0, 0, 10);
        c.due("a fraction's upper number", Check.rowOf(far, 0) > 0, true);
        c.due("it is below the lower one", Check.rowOf(far, 0) < Check.rowOf(far, 1), true);
    }

    @Says(promise = 50, words = "NoSuchElementException: none such.")
    static void rowThrowsForNoneSuch(Check c) {
        PullThePlug x = Check.made(THREE);
        int[] others = {-1, 3, 4, 6, Integer.MIN_VALUE, Integer.MAX_VALUE};
        c.due("a new object", Check.rowOf(new PullThePlug(), 0), THROWS);
        x.later(0, 0);
        for (int i : others) {
            c.due("row(" + i + ")", Check.rowOf(x, i), THROWS);
        }
        c.due("the last one", Check.rowOf(x, 2), 20);
        x.evens();
        c.due("a shorter ROW", Check.rowOf(x, 1), THROWS);
        x.order(0);
        c.due("a ROW of no numbers", Check.rowOf(x, 0), THROWS);
    }
}
