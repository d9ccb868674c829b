/** Boundary cases that promises 1 to 4, 6 and 7 name: lakes told as texts and sheets. */
final class EdgesLakes {
    private static final String SIX = "9990a-;0500b0;0500c1;0500d2;0500a3;0509b4";
    private static final String FIVE = "1000a-;1000a-;1000a-;1000a-;1000a-";
    private static final long THROWS = Check.THROWS;

    private static void refused(Check c, String text, int place) {
        PullThePlug x = new PullThePlug();
        c.due("lakes " + text, Check.lakes(x, text), -1 - place);
        c.due("LAKES behind " + text, x.count(0), 0);
    }

    // ---- Promise 1

    @Says(promise = 1, words = "No LAKES.")
    static void aNewObjectHasNoLakes(Check c) {
        PullThePlug x = new PullThePlug();
        for (int what = 0; what <= 12; what++) {
            c.due("count(" + what + ")", x.count(what), 0);
        }
        c.due("lake(0, 0)", Check.lakeOf(x, 0, 0), THROWS);
        c.due("pulls(0)", x.pulls(0), -1);
        c.due("again(0)", x.again(0), false);
        c.due("undo()", x.undo(), -1);
    }

    // ---- Promise 2

    @Says(promise = 2, words = "Four signs come behind THE TEXT, of v the highest byte first: how many it has.")
    static void fourSignsComeHighestByteFirst(Check c) {
        PullThePlug x = new PullThePlug();
        c.due("the first four", x.sign(0x31393837), 4);
        c.due("four more", x.sign(0x642D0000), 8);
        c.due("cut", x.end(6), true);
        c.due("a LINE", x.lakes(), 1);
        int[] want = {19, 8, 7, 3, -1};
        for (int what = 0; what < want.length; what++) {
            c.due("lake(0, " + what + ")", Check.lakeOf(x, 0, what), want[what]);
        }
        c.due("four signs of number 255", x.sign(-1), 4);
        c.due("none of them can stand", x.lakes(), -1);
        c.due("four signs of 128 and a digit", x.sign(0xB1B0B0B0), 4);
        c.due("they are no digits", x.lakes(), -1);
        c.due("four signs of number 0", x.sign(0), 4);
    }

    @Says(promise = 2, words = "Refused: there would be more than 80.")
    static void thereAre80SignsAtMost(Check c) {
        PullThePlug x = new PullThePlug();
        for (int i = 1; i <= 20; i++) {
            c.due("sign " + i, x.sign(0x6E306E30), 4 * i);
        }
        c.due("from 80", x.sign(0), -1);
        c.due("80 still", x.count(11), 80);
        x.end(77);
        c.due("from 77", x.sign(0), -1);
        c.due("77 still", x.count(11), 77);
        x.end(76);
        c.due("from 76", x.sign(0), 80);
    }

    // ---- Promise 3

    @Says(promise = 3, words = "THE TEXT has its first n signs alone: true;")
    static void endLeavesTheFirstSigns(Check c) {
        PullThePlug x = Check.made("1000a-");
        Check.tell(x, "p0n2n9");
        c.due("as many as there are", x.end(6), true);
        c.due("all are there", x.count(11), 6);
        c.due("four", x.end(4), true);
        c.due("the first ones", x.year(), 2);
        c.due("DAY", x.count(1), 2);
        Check.tell(x, "n9n9");
        c.due("none", x.end(0), true);
        c.due("it is empty", x.count(11), 0);
        c.due("none of none", x.end(0), true);
    }

    @Says(promise = 3, words = "false if it has not so many")
    static void endOfMoreThanThereAre(Check c) {
        PullThePlug x = new PullThePlug();
        c.due("one of none", x.end(1), false);
        x.sign(0);
        c.due("five of four", x.end(5), false);
        c.due("four still", x.count(11), 4);
        x.end(3);
        c.due("what was cut is gone", x.end(4), false);
        c.due("the most", x.end(Integer.MAX_VALUE), false);
        c.due("three still", x.count(11), 3);
    }

    @Says(promise = 3, words = "or n is below 0")
    static void endBelow0(Check c) {
        PullThePlug x = new PullThePlug();
        c.due("-1 of none", x.end(-1), false);
        x.sign(0);
        c.due("-1", x.end(-1), false);
        c.due("the least", x.end(Integer.MIN_VALUE), false);
        c.due("four still", x.count(11), 4);
    }

    // ---- Promise 4

    @Says(promise = 4, words = "(an empty one: nothing): how many LINES.")
    static void anEmptyTextTellsNoLakes(Check c) {
        PullThePlug x = new PullThePlug();
        c.due("an empty one", x.lakes(), 0);
        c.due("LAKES", x.count(0), 0);
        c.due("one LINE", Check.lakes(x, "1000a-"), 1);
        c.due("five LINES", Check.lakes(x, FIVE), 5);
        c.due("an empty one, where there is no room", x.lakes(), 0);
        c.due("six LAKES", x.count(0), 6);
        c.due("six LINES", Check.lakes(new PullThePlug(), SIX), 6);
    }

    @Says(promise = 4, words = "-1 - p: the sign at p can't stand there")
    static void aSignThatCantStandInALine(Check c) {
        String[] texts = {"x", "1x", "10x", "100x", "1000x", "1000ax", "1000a-x", "1000a-;x", "1000a-;1000a0;1000ax"};
        int[] places = {0, 1, 2, 3, 4, 5, 6, 7, 19};
        for (int i = 0; i < texts.length; i++) {
            refused(c, texts[i], places[i]);
        }
        refused(c, "" + (char) 0, 0);
        refused(c, "1000a-" + (char) 255, 6);
    }

    @Says(promise = 4, words = "its end, if it ends too early;")
    static void linesThatEndTooEarly(Check c) {
        String text = "1000a-;1200b0";
        for (int n = 1; n < text.length(); n++) {
            if (n != 6) {
                refused(c, text.substring(0, n), n);
            }
        }
        refused(c, SIX.substring(0, 40), 40);
    }

    @Says(promise = 4, words = "41, if it has more and the first 41 could go on or end;")
    static void linesOfMoreThan41Signs(Check c) {
        refused(c, SIX + ";", 41);
        refused(c, SIX + "x", 41);
        refused(c, SIX + ";1000a-", 41);
        refused(c, (SIX + SIX).substring(0, 80), 41);
        refused(c, SIX.substring(0, 40) + "x;", 40);
        refused(c, "x" + SIX, 0);
        PullThePlug x = Check.made("1000a-");
        c.due("the sixth LINE has no room, ahead of 41", Check.lakes(x, SIX + ";"), -36);
    }

    @Says(promise = 4, words = "BRIM 00: at its last digit;")
    static void brim00IsRefusedAtItsLastDigit(Check c) {
        refused(c, "00", 1);
        refused(c, "0000a-", 1);
        refused(c, "1000a-;0000a-", 8);
        refused(c, "0x00a-", 1);
        c.due("01", Check.lakes(new PullThePlug(), "0100a-"), 1);
        c.due("90", Check.lakes(new PullThePlug(), "9000a-"), 1);
    }

    @Says(promise = 4, words = "a LAKE that is not there: at its digit;")
    static void aDownThatIsNotThereIsRefusedAtItsDigit(Check c) {
        refused(c, "1000a0", 5);
        refused(c, "1000a9", 5);
        refused(c, "1000a-;1000a1", 12);
        refused(c, "1000a-;1000a2;1000a-", 12);
        PullThePlug x = Check.made(FIVE);
        c.due("the last that is there", Check.lakes(x, "1000a4"), 1);
        PullThePlug y = Check.made(FIVE);
        c.due("the next", Check.lakes(y, "1000a5"), -6);
    }

    @Says(promise = 4, words = "the first sign of a LINE for which there is no room)")
    static void aLineForWhichThereIsNoRoom(Check c) {
        PullThePlug x = Check.made(FIVE);
        c.due("two LINES for one", Check.lakes(x, "1000a-;1000a-"), -8);
        c.due("two LINES for one, the second a wrong one", Check.lakes(x, "1000a-;x"), -8);
        c.due("none came", x.count(0), 5);
        c.due("one LINE for one", Check.lakes(x, "1000a-"), 1);
        c.due("one LINE for none", Check.lakes(x, "1000a-"), -1);
        c.due("a wrong LINE for none", Check.lakes(x, "10x"), -1);
        c.due("six", x.count(0), 6);
    }

    @Says(promise = 4, words = "Nothing of it comes, if a LINE can't.")
    static void nothingComesIfALineCant(Check c) {
        PullThePlug x = Check.made("2000b-");
        x.pulls(0);
        x.keep(0);
        c.idle("the third LINE is wrong", x, () -> Check.lakes(x, "1000a-;1000a0;0000a-"), -16);
        c.due("what was kept is there", x.again(0), true);
        c.due("a good LINE comes as LAKE 1", Check.lakes(x, "3000c0"), 1);
        c.due("its BRIM", Check.lakeOf(x, 1, 0), 30);
        c.due("LAKES", x.count(0), 2);
    }

    // ---- Promise 6

    @Says(promise = 6, words = "Of a LAKE, what 0: BRIM, 1: TAP, 2: LEAK, 3: KING")
    static void lakeTellsEachWhat(Check c) {
        PullThePlug x = Check.made("0100a-;9998d0", 1, 8);
        int[][] want = {{1, 0, 0, 0, -1, 1, 0, 0, 0}, {99, 9, 8, 3, 0, 9, 0, 0, 0}};
        for (int lake = 0; lake < 2; lake++) {
            for (int what = 0; what < 9; what++) {
                c.due("lake(" + lake + ", " + what + ")", Check.lakeOf(x, lake, what), want[lake][what]);
            }
        }
    }

    @Says(promise = 6, words = "4: DOWN (-1: none)")
    static void noDownIsMinusOne(Check c) {
        PullThePlug x = Check.made("1000a-;1000a0");
        c.due("none", Check.lakeOf(x, 0, 4), -1);
        c.due("LAKE 0", Check.lakeOf(x, 1, 4), 0);
    }

    @Says(promise = 6, words = "6: 1 if its plug is out")
    static void lakeTellsOfThePlug(Check c) {
        PullThePlug x = Check.made("1000a-;1000a0");
        x.pulls(1);
        c.due("in", Check.lakeOf(x, 0, 6), 0);
        c.due("out", Check.lakeOf(x, 1, 6), 1);
        x.stops(1);
        c.due("put in", Check.lakeOf(x, 1, 6), 0);
    }

    @Says(promise = 6, words = "8: RUN now.")
    static void lakeTellsRunNow(Check c) {
        PullThePlug x = Check.made("3000a-");
        c.due("plug in", Check.lakeOf(x, 0, 8), 0);
        x.pulls(0);
        c.due("a third of 30", Check.lakeOf(x, 0, 8), 10);
        x.days(1);
        c.due("a third of 20, cut up, less 1 of HAIR", Check.lakeOf(x, 0, 8), 6);
        x.sheet(3, 0, 0, 0);
        c.due("dry", Check.lakeOf(x, 0, 8), 0);
    }

    @Says(promise = 6, words = "NoSuchElementException: none such, another what.")
    static void lakeThrowsForNoneSuch(Check c) {
        PullThePlug x = Check.made("1000a-;1000a0");
        int[] lakes = {-1, 2, 5, 6, Integer.MIN_VALUE, Integer.MAX_VALUE};
        for (int lake : lakes) {
            for (int what = 0; what < 9; what++) {
                c.due("lake(" + lake + ", " + what + ")", Check.lakeOf(x, lake, what), THROWS);
            }
        }
        c.due("the last one", Check.lakeOf(x, 1, 0), 10);
        c.due("without LAKES", Check.lakeOf(new PullThePlug(), 0, 0), THROWS);
    }

    @Says(promise = 6, words = "NoSuchElementException: none such, another what.")
    static void lakeThrowsForAnotherWhat(Check c) {
        PullThePlug x = Check.made("1000a-");
        int[] whats = {-1, 9, 10, Integer.MIN_VALUE, Integer.MAX_VALUE};
        for (int what : whats) {
            c.due("lake(0, " + what + ")", Check.lakeOf(x, 0, what), THROWS);
        }
        c.due("the first what", Check.lakeOf(x, 0, 0), 10);
        c.due("the last what", Check.lakeOf(x, 0, 8), 0);
    }

    // ---- Promise 7

    @Says(promise = 7, words = "bytes (kind 0), shorts (1), ints (2)")
    static void kindsOfSheets(Check c) {
        PullThePlug x = Check.made("9900a-");
        c.due("256 as a byte", x.sheet(0, 1, 256, 0), 0);
        c.due("256 as a short", x.sheet(1, 1, 256, 0), 99);
        c.due("65536 as a short", x.sheet(1, 1, 65536, 0), 0);
        c.due("65536 as an int", x.sheet(2, 1, 65536, 0), 99);
        c.due("missing", x.sheet(3, 1, 65536, 0), -3);
    }

    @Says(promise = 7, words = "of bytes, shorts the lowest bits, with their sign;")
    static void bytesAreTheLowestBitsWithTheirSign(Check c) {
        PullThePlug x = Check.made("9900a-");
        int[] entries = {127, 128, 255, 256, 256 + 50, -256 + 50, 50 - 128, Integer.MIN_VALUE, Integer.MAX_VALUE};
        int[] levels = {99, 0, 0, 0, 50, 50, 0, 0, 0};
        for (int i = 0; i < entries.length; i++) {
            c.due("a byte of " + entries[i], x.sheet(0, 1, entries[i], 0), levels[i]);
        }
    }

    @Says(promise = 7, words = "of bytes, shorts the lowest bits, with their sign;")
    static void shortsAreTheLowestBitsWithTheirSign(Check c) {
        PullThePlug x = Check.made("9900a-");
        int[] entries = {128, 32767, 32768, 65535, 65536, 65536 + 50, -65536 + 50, Integer.MIN_VALUE, Integer.MAX_VALUE};
        int[] levels = {99, 99, 0, 0, 0, 50, 50, 0, 0};
        for (int i = 0; i < entries.length; i++) {
            c.due("a short of " + entries[i], x.sheet(1, 1, entries[i], 0), levels[i]);
        }
    }

    @Says(promise = 7, words = "put to 0 .. BRIM)")
    static void entriesArePutTo0ToBrim(Check c) {
        PullThePlug x = Check.made("3000a-");
        int[] entries = {-1, 0, 1, 29, 30, 31, Integer.MIN_VALUE, Integer.MAX_VALUE};
        int[] levels = {0, 0, 1, 29, 30, 30, 0, 30};
        for (int i = 0; i < entries.length; i++) {
            c.due("an int of " + entries[i], x.sheet(2, 1, entries[i], 0), levels[i]);
            c.levels("an int of " + entries[i], x, levels[i]);
        }
        c.due("a byte of -1", x.sheet(0, 1, -1, 0), 0);
        c.due("a short of 31", x.sheet(1, 1, 31, 0), 30);
    }

    @Says(promise = 7, words = "of n entries f, f + step, ..")
    static void entriesGoByStepsThatMayWrap(Check c) {
        PullThePlug x = Check.made("9900a-;9900a-;9900a-;9900a-;9900a-;9900a-");
        c.due("six entries", x.sheet(2, 6, 10, 5), 10 + 15 + 20 + 25 + 30 + 35);
        c.levels("six entries", x, 10, 15, 20, 25, 30, 35);
        x.sheet(2, 6, 25, -10);
        c.levels("downwards, below 0", x, 25, 15, 5, 0, 0, 0);
        x.sheet(2, 2, Integer.MAX_VALUE, 1);
        c.levels("behind the most int comes the least", x, 99, 0);
        x.sheet(2, 3, 7, Integer.MIN_VALUE);
        c.levels("twice the least int is 0", x, 7, 0, 7);
        x.sheet(0, 3, 126, 1);
        c.levels("bytes 126, 127, -128", x, 99, 99, 0);
        PullThePlug two = Check.made("9900a-;9900a-");
        c.due("more entries than LAKES", two.sheet(2, 6, 1, 1), 3);
    }

    @Says(promise = 7, words = "those behind it have 0:")
    static void lakesBehindTheSheetHave0(Check c) {
        PullThePlug x = Check.made("9900a-;9900a-;9900a-");
        c.due("two of three", x.sheet(2, 2, 5, 0), 10);
        c.levels("two of three", x, 5, 5, 0);
        c.due("none of three", x.sheet(2, 0, 5, 0), 0);
        c.levels("none of three", x, 0, 0, 0);
        c.due("not DRIED by it", x.count(3), 0);
    }

    @Says(promise = 7, words = "the sum of all.")
    static void sheetAnswersTheSumOfLevels(Check c) {
        PullThePlug x = Check.made("3000a-;1200b-;2000c-");
        c.due("as far as they have room", x.sheet(2, 3, 15, 0), 15 + 12 + 15);
        c.due("no LAKES", new PullThePlug().sheet(2, 6, 15, 0), 0);
    }

    @Says(promise = 7, words = "-2: n below 0 (of kinds 0 .. 2; nothing changes);")
    static void sheetOfNBelow0(Check c) {
        PullThePlug x = Check.made("3000a-;1200b-");
        for (int kind = 0; kind <= 2; kind++) {
            int k = kind;
            c.idle("kind " + k, x, () -> x.sheet(k, -1, 1, 1), -2);
            c.idle("kind " + k + ", the least", x, () -> x.sheet(k, Integer.MIN_VALUE, 1, 1), -2);
        }
        c.due("n 0 is not below 0", x.sheet(2, 0, 1, 1), 0);
    }

    @Says(promise = 7, words = "-3: missing (all 0).")
    static void aMissingSheet(Check c) {
        PullThePlug x = Check.made("3000a-;1200b-");
        c.due("missing", x.sheet(3, 2, 5, 5), -3);
        c.levels("all 0", x, 0, 0);
        x.sheet(2, 2, 5, 5);
        c.due("missing, n below 0", x.sheet(3, -1, 5, 5), -3);
        c.levels("all 0 again", x, 0, 0);
        c.due("missing, n 6", x.sheet(3, 6, 5, 5), -3);
        c.due("missing, no LAKES", new PullThePlug().sheet(3, 0, 0, 0), -3);
    }

    @Says(promise = 7, words = "NONE: another kind, n above 6 (these first).")
    static void sheetOfAnotherKind(Check c) {
        PullThePlug x = Check.made("3000a-;1200b-");
        c.idle("kind -1", x, () -> x.sheet(-1, 1, 1, 1), -1);
        c.idle("kind 4", x, () -> x.sheet(4, 1, 1, 1), -1);
        c.idle("the least kind", x, () -> x.sheet(Integer.MIN_VALUE, 1, 1, 1), -1);
        c.idle("the most kind", x, () -> x.sheet(Integer.MAX_VALUE, 1, 1, 1), -1);
    }

    @Says(promise = 7, words = "NONE: another kind, n above 6 (these first).")
    static void sheetOfNAbove6(Check c) {
        PullThePlug x = Check.made("3000a-;1200b-");
        for (int kind = 0; kind <= 2; kind++) {
            int k = kind;
            c.idle("kind " + k + ", n 7", x, () -> x.sheet(k, 7, 1, 1), -1);
            c.idle("kind " + k + ", the most", x, () -> x.sheet(k, Integer.MAX_VALUE, 1, 1), -1);
        }
        c.due("n 6", x.sheet(2, 6, 1, 1), 3);
    }

    @Says(promise = 7, words = "(these first)")
    static void sheetLooksAtKindAndNAbove6First(Check c) {
        PullThePlug x = Check.made("3000a-;1200b-");
        c.idle("another kind, n below 0", x, () -> x.sheet(4, -1, 1, 1), -1);
        c.idle("missing, n 7", x, () -> x.sheet(3, 7, 1, 1), -1);
    }
}
