/** Boundary cases that promises 36 to 41 name: threats, treaties, what is wanted, parted, feared, inherited. */
final class EdgesThreats {
    private static final String THREE = "3020a-;1201b0;2010a0";
    private static final int[] NO_SET_OF_THREE = {-1, 8, 9, 15, 64, Integer.MIN_VALUE, Integer.MAX_VALUE};
    private static final int[] NO_KING = {-1, 4, Integer.MIN_VALUE, Integer.MAX_VALUE};

    // ---- Promise 36

    @Says(promise = 36, words = "from one at a time, one or more of its LEVEL (as they are now)")
    static void threatIsByLevelsAsTheyAreNow(Check c) {
        PullThePlug x = Check.made(THREE);
        c.due("all of one", x, x.threat(2), 1, 1, 12);
        x.sheet(2, 3, 1, 0);
        c.due("one of one", x, x.threat(2), 1, 1, 1);
        c.due("one of two", x, x.threat(3), 0);
        x.sheet(2, 3, 1, 1);
        c.due("1 of 2 against 1", x, x.threat(3), 1, 1, 1);
        c.due("1, 2 and 3", x, x.threat(7), 0);
    }

    @Says(promise = 36, words = "who lets out the last has won: 1 if the first one wins by best play, else 0;")
    static void whoLetsOutTheLastHasWon(Check c) {
        PullThePlug x = Check.made(THREE);
        c.due("no LAKES: the first can't let out", x, x.threat(0), 0);
        x.sheet(2, 1, 1, 0);
        c.due("a last one", x, x.threat(1), 1, 0, 1);
        c.due("dry ones with it", x, x.threat(7), 1, 0, 1);
        c.due("dry ones alone", x, x.threat(6), 0);
        PullThePlug none = new PullThePlug();
        c.due("without LAKES", none, none.threat(0), 0);
    }

    @Says(promise = 36, words = "the ROW: the least move that wins (LAKE, how much; nothing, if he loses).")
    static void threatTellsTheLeastMove(Check c) {
        PullThePlug x = Check.made(THREE, 9, 0);
        c.due("of each of three", x, x.threat(7), 1, 0, 9);
        c.due("of 1 and 2 he loses", x, x.threat(6), 0);
        x.sheet(2, 3, 2, 5);
        c.due("2, 7, 12: of 2 alone", x, x.threat(7), 1, 2, 7);
    }

    @Says(promise = 36, words = "NONE: bits of none such.")
    static void threatOfBitsOfNoneSuch(Check c) {
        PullThePlug x = Check.made(THREE);
        x.later(0, 0);
        for (int some : NO_SET_OF_THREE) {
            c.idle("threat(" + some + ")", x, () -> x.threat(some), -1);
        }
        c.due("without LAKES", new PullThePlug().threat(1), -1);
        PullThePlug six = Check.made("1000a-;1000a-;1000a-;1000a-;1000a-;0100a-");
        c.due("all six", six, six.threat(63), 1, 0, 9);
        c.due("a seventh", six.threat(64), -1);
    }

    // ---- Promise 37

    @Says(promise = 37, words = "LEVELS of the LAKES that they have are q (0 .. 999) or more together")
    static void treatyOfQOrMore(Check c) {
        PullThePlug x = Check.made("3000a-;1200b-");
        c.due("q 0: no KING at all", x, x.treaty(0), 1, 0, 0);
        c.due("q 1", x, x.treaty(1), 2, 3, 0);
        c.due("just what 1 has", x, x.treaty(12), 2, 3, 0);
        c.due("1 more", x, x.treaty(13), 1, 1, 1);
        c.due("just what both have", x, x.treaty(42), 1, 3, 3);
        c.due("1 more than that", x, x.treaty(43), 0, 0, 0);
        c.due("q 999", x, x.treaty(999), 0, 0, 0);
    }

    @Says(promise = 37, words = "sets of KINGS (of all 16) that may, but not without any one of them: how many;")
    static void treatiesWithoutAnyOneTooMany(Check c) {
        PullThePlug x = Check.made("1000a-;1000b-;1000c-;1000d-");
        c.due("each alone", x, x.treaty(10), 4, 15, 0);
        c.due("any two", x, x.treaty(20), 6, 15, 0);
        c.due("any three", x, x.treaty(30), 4, 15, 0);
        c.due("all four", x, x.treaty(40), 1, 15, 15);
        PullThePlug y = Check.made("1000a-;1000b-");
        c.due("KINGS who have none are in none", y, y.treaty(20), 1, 3, 3);
    }

    @Says(promise = 37, words = "KINGS that are in some of these, KINGS that are in all (bits; 0, 0 without such sets).")
    static void treatyTellsWhoIsInSomeAndInAll(Check c) {
        PullThePlug x = Check.made("1000a-;0500b-;0500c-");
        c.due("a with b or c", x, x.treaty(15), 2, 7, 1);
        c.due("b with c, or a", x, x.treaty(10), 2, 7, 0);
        c.due("without such sets", x, x.treaty(21), 0, 0, 0);
        PullThePlug none = new PullThePlug();
        c.due("without LAKES", none, none.treaty(1), 0, 0, 0);
        c.due("without LAKES, q 0", none, none.treaty(0), 1, 0, 0);
    }

    @Says(promise = 37, words = "NONE: another q.")
    static void treatyOfAnotherQ(Check c) {
        PullThePlug x = Check.made(THREE);
        x.later(0, 0);
        int[] others = {-1, 1000, Integer.MIN_VALUE, Integer.MAX_VALUE};
        for (int q : others) {
            c.idle("treaty(" + q + ")", x, () -> x.treaty(q), -1);
        }
    }

    // ---- Promise 38

    @Says(promise = 38, words = "The fewest LAKES to be given to a KING (0 .. 3)")
    static void wantsOfKings0To3(Check c) {
        PullThePlug x = Check.made("1000a-;1000a-;1000d-;1000d-;1000d-");
        c.due("0 has 20 of 50", x, x.wants(0), 1, 4);
        c.due("1 has none of 50", x, x.wants(1), 3, 7);
        c.due("3 has 30 of 50", x, x.wants(3), 0, 0);
    }

    @Says(promise = 38, words = "so that he has more than half of LEVEL of all together: how many;")
    static void wantsMoreThanHalf(Check c) {
        PullThePlug x = Check.made("1000a-;1000b-");
        c.due("half is not enough", x, x.wants(0), 1, 2);
        x.sheet(2, 2, 10, -1);
        c.due("10 of 19", x, x.wants(0), 0, 0);
        c.due("9 of 19", x, x.wants(1), 1, 1);
        c.due("none of 19", x, x.wants(3), 1, 1);
        x.sheet(2, 2, 9, 0);
        c.due("all of two", x, x.wants(2), 2, 3);
    }

    @Says(promise = 38, words = "the ROW: they (bits: of as few the least).")
    static void wantsTheLeastOfAsFew(Check c) {
        PullThePlug x = Check.made("1000a-;1000a-;1000a-;0100b-");
        c.due("two of three", x, x.wants(2), 2, 3);
        PullThePlug y = Check.made("0100a-;1000a-;1000a-;1000b-");
        c.due("one more than his own is 20 of 31", y, y.wants(1), 1, 2);
        PullThePlug z = Check.made("0500a-;0500a-;3000a-");
        c.due("one is fewer, though its bits are more", z, z.wants(1), 1, 4);
    }

    @Says(promise = 38, words = "-2: by none;")
    static void wantsByNone(Check c) {
        PullThePlug x = Check.made(THREE, 0, 0);
        x.later(0, 0);
        c.idle("all are dry", x, () -> x.wants(0), -2);
        c.due("without LAKES", new PullThePlug().wants(0), -2);
        x.sheet(2, 1, 1, 0);
        c.due("one is not", x, x.wants(1), 1, 1);
    }

    @Says(promise = 38, words = "NONE: another one.")
    static void wantsOfAnotherOne(Check c) {
        PullThePlug x = Check.made(THREE);
        x.later(0, 0);
        for (int king : NO_KING) {
            c.idle("wants(" + king + ")", x, () -> x.wants(king), -1);
        }
        c.due("without LAKES", new PullThePlug().wants(4), -1);
    }

    // ---- Promise 39

    @Says(promise = 39, words = "LEVEL of both parts together differs the least: by how much;")
    static void evensDifferTheLeast(Check c) {
        PullThePlug x = Check.made("1000a-;0400b-;0600c-");
        c.due("evenly", x, x.evens(), 0, 6);
        x.sheet(2, 3, 10, -7);
        c.due("10 against 3", x, x.evens(), 7, 2);
        PullThePlug one = Check.made("4400a-");
        c.due("one LAKE", one, one.evens(), 44, 0);
    }

    @Says(promise = 39, words = "the part in which LAKE 0 is not (bits: of as good ones the least;")
    static void evensTellThePartWithoutLake0(Check c) {
        PullThePlug x = Check.made("0500a-;0500b-;0500c-;0500d-");
        c.due("1 and 2", x, x.evens(), 0, 6);
        x.sheet(2, 3, 5, 0);
        c.due("1 or 2 or both", x, x.evens(), 5, 2);
        x.sheet(2, 1, 5, 0);
        c.due("dry ones or none", x, x.evens(), 5, 0);
        x.sheet(3, 0, 0, 0);
        c.due("all dry", x, x.evens(), 0, 0);
        PullThePlug y = Check.made("0200a-;0100b-;0900c-");
        c.due("LAKE 2 against 0 and 1", y, y.evens(), 6, 4);
    }

    @Says(promise = 39, words = "0 and 0 without LAKES).")
    static void evensWithoutLakes(Check c) {
        PullThePlug none = new PullThePlug();
        c.due("evens()", none, none.evens(), 0, 0);
    }

    // ---- Promise 40

    @Says(promise = 40, words = "The KING without whose LAKES the others have the least LEVEL together: of equal ones the first: he;")
    static void fearedOfEqualOnesIsTheFirst(Check c) {
        PullThePlug x = Check.made("1000d-;1000c-;0500b-");
        c.due("2 and 3", x, x.feared(), 2, 15);
        x.sheet(2, 3, 9, 1);
        c.due("3 has 9, 2 has 10", x, x.feared(), 2, 14);
        x.sheet(2, 3, 10, -1);
        c.due("3 has 10, 2 has 9", x, x.feared(), 3, 14);
        x.sheet(3, 0, 0, 0);
        c.due("all have none", x, x.feared(), 0, 0);
        PullThePlug none = new PullThePlug();
        c.due("without LAKES", none, none.feared(), 0, 0);
    }

    // ---- Promise 41

    @Says(promise = 41, words = "THE TEXT tells HEIRS (1 to 6 letters a .. d)")
    static void heirsAre1To6(Check c) {
        PullThePlug x = Check.made("0600a-;0500a-;0400a-;0300a-;0200a-;0100a-");
        c.due("one", x, Check.heirs(x, "d"), 6, 0);
        c.due("six", x, Check.heirs(x, "bcdbcd"), 21, 0, 1, 2, 3, 4, 5);
    }

    @Says(promise = 41, words = "each wants one LAKE of another KING, of different ones")
    static void heirsWantLakesOfOthersAndDifferentOnes(Check c) {
        PullThePlug x = Check.made("3000a-;1200b-;2000a-");
        c.due("not his own", x, Check.heirs(x, "a"), 12, 1);
        c.due("not the same", x, Check.heirs(x, "aa"), 12, -1, 1);
        c.due("two of one KING", x, Check.heirs(x, "bb"), 50, 0, 2);
        c.due("one each", x, Check.heirs(x, "ab"), 42, 1, 0);
        x.gives(1, 0);
        c.due("all are his own", x, Check.heirs(x, "a"), 0, -1);
    }

    @Says(promise = 41, words = "the most LEVEL together that they can have: how much;")
    static void heirsHaveTheMostTogether(Check c) {
        PullThePlug x = Check.made("0900a-;0800b-;0100c-");
        c.due("the first leaves LAKE 0, that the second alone may have", x, Check.heirs(x, "cb"), 17, 1, 0);
        x.sheet(2, 3, 5, -1);
        c.due("by LEVEL, not by BRIM", x, Check.heirs(x, "cb"), 9, 1, 0);
    }

    @Says(promise = 41, words = "the ROW: by HEIRS the LAKE (-1: none; of as good ones the least row).")
    static void heirsTellTheLeastRow(Check c) {
        PullThePlug x = Check.made("1000a-;1000b-;1000c-");
        c.due("0 1 2", x, Check.heirs(x, "ddd"), 30, 0, 1, 2);
        c.due("0 or 1 or 2", x, Check.heirs(x, "d"), 10, 0);
        c.due("none is less than any", x, Check.heirs(x, "dddd"), 30, -1, 0, 1, 2);
        x.sheet(2, 3, 10, -10);
        c.due("a dry one is not taken", x, Check.heirs(x, "dd"), 10, -1, 0);
        PullThePlug none = new PullThePlug();
        c.due("without LAKES", none, Check.heirs(none, "abcdab"), 0, -1, -1, -1, -1, -1, -1);
    }

    @Says(promise = 41, words = "-1 - p: the sign at p can't stand there (its end for none; a seventh sign: at it).")
    static void aSignThatCantStandAmongHeirs(Check c) {
        PullThePlug x = Check.made(THREE);
        x.later(0, 0);
        String[] texts = {"`", "e", "A", "0", "ae", "abcde", "abcd-", "aaaaa`", "a" + (char) 0, "a a"};
        int[] places = {0, 0, 0, 0, 1, 4, 4, 5, 1, 1};
        for (int i = 0; i < texts.length; i++) {
            String text = texts[i];
            c.idle("heirs " + text, x, () -> Check.heirs(x, text), -1 - places[i]);
        }
        c.due("a and d stand", x, Check.heirs(x, "ad"), 42, 1, 0);
    }

    @Says(promise = 41, words = "(its end for none;")
    static void noHeirs(Check c) {
        PullThePlug x = Check.made(THREE);
        x.later(0, 0);
        c.idle("none", x, () -> Check.heirs(x, ""), -1);
    }

    @Says(promise = 41, words = "a seventh sign: at it).")
    static void aSeventhHeir(Check c) {
        PullThePlug x = Check.made(THREE);
        x.later(0, 0);
        c.idle("a letter", x, () -> Check.heirs(x, "aaaaaaa"), -7);
        c.idle("another sign", x, () -> Check.heirs(x, "aaaaaax"), -7);
        c.idle("eight", x, () -> Check.heirs(x, "aaaaaaaa"), -7);
        c.idle("a wrong one ahead", x, () -> Check.heirs(x, "aaaaaxa"), -6);
        c.due("the text is gone", x.count(11), 0);
    }
}
