/** Boundary cases that the document names of THE RULE. */
final class EdgesRule {
    private static final String FORTY = "1+1+1+1+1+1+1+1+1+1+1+1+1+1+1+1+1+1+1+99";

    /** RUN of a LAKE of BRIM and LEVEL 99, TAP 7, whose plug is out. */
    private static void runs(Check c, String rule, int want) {
        PullThePlug x = Check.made("9970a-", "0", 1);
        c.due("rule " + rule, Check.rule(x, rule), 0);
        c.due("RUN by " + rule, Check.lakeOf(x, 0, 8), want);
    }

    private static void refused(Check c, String rule, int place) {
        PullThePlug x = Check.made("9970a-", "5", 1);
        c.due("rule " + rule, Check.rule(x, rule), -1 - place);
        c.due("RUN still, behind " + rule, Check.lakeOf(x, 0, 8), 5);
    }

    @Says(promise = 0, words = "THE RULE is a text of at most 40 signs")
    static void ruleHas40SignsAtMost(Check c) {
        runs(c, FORTY, 99);
        refused(c, FORTY + "9", 40);
    }

    @Says(promise = 0, words = "(at first none: (l+2)/3-h)")
    static void firstRuleIsAThirdLessHair(Check c) {
        PullThePlug x = Check.made("9900a-");
        PullThePlug told = Check.made("9900a-", "(l+2)/3-h", 0);
        x.pulls(0);
        told.pulls(0);
        int[] levels = {0, 1, 2, 3, 4, 99};
        int[] runs = {0, 1, 1, 1, 2, 33};
        for (int i = 0; i < levels.length; i++) {
            x.sheet(2, 1, levels[i], 0);
            c.due("RUN of LEVEL " + levels[i], Check.lakeOf(x, 0, 8), runs[i]);
        }
        for (int i = 0; i < 12; i++) {
            c.due("as if it were told, DAY " + i, x.days(1), told.sheet(2, 1, 99, 0) - 99 + told.days(1));
            x.sheet(2, 1, 99, 0);
        }
        c.due("33 less 9 of HAIR", Check.lakeOf(x, 0, 8), 24);
    }

    @Says(promise = 0, words = "< > = bind least")
    static void comparisonsBindLeast(Check c) {
        runs(c, "1+1<3", 1);
        runs(c, "2*3>5", 1);
        runs(c, "4=2+2", 1);
        runs(c, "0<-1", 0);
        runs(c, "5-3>1", 1);
    }

    @Says(promise = 0, words = "(two; 1 or 0;")
    static void comparisonsAre1Or0(Check c) {
        runs(c, "3<5", 1);
        runs(c, "5<5", 0);
        runs(c, "5<3", 0);
        runs(c, "5>3", 1);
        runs(c, "5>5", 0);
        runs(c, "3>5", 0);
        runs(c, "5=5", 1);
        runs(c, "5=4", 0);
        refused(c, "<5", 0);
        refused(c, "5<", 2);
    }

    @Says(promise = 0, words = "not one behind the other)")
    static void comparisonsDoNotStandBehindEachOther(Check c) {
        refused(c, "1<2<3", 3);
        refused(c, "1=2>3", 3);
        refused(c, "1+(4>3=2)", 6);
        runs(c, "(1<2)=1", 1);
        runs(c, "1=(2>1)", 1);
        runs(c, "(3>2)+(2>1)", 2);
    }

    @Says(promise = 0, words = "then + - (from the left)")
    static void sumsGoFromTheLeft(Check c) {
        runs(c, "9-3-2", 4);
        runs(c, "9-3+2", 8);
        runs(c, "9+3-2", 10);
    }

    @Says(promise = 0, words = "then * / (from the left;")
    static void productsGoFromTheLeft(Check c) {
        runs(c, "64/8/2", 4);
        runs(c, "9/2*2", 8);
        runs(c, "3*5/2", 7);
        runs(c, "1+2*3", 7);
        runs(c, "9-8/4", 7);
    }

    @Says(promise = 0, words = "by 0: 0;")
    static void byZeroIsZero(Check c) {
        runs(c, "7/0", 0);
        runs(c, "5+7/0", 5);
        runs(c, "0/0+3", 3);
        runs(c, "9/(l-99)+4", 4);
    }

    @Says(promise = 0, words = "cut to 0)")
    static void quotientsAreCutTo0(Check c) {
        runs(c, "7/2", 3);
        runs(c, "9+-7/2", 6);
        runs(c, "9+7/-2", 6);
        runs(c, "-7/-2", 3);
        runs(c, "9+-1/2", 9);
    }

    @Says(promise = 0, words = "then - ahead of a thing (any many)")
    static void anyManyMinusesMayStandAhead(Check c) {
        runs(c, "-".repeat(38) + "5", 5);
        runs(c, "9+" + "-".repeat(37) + "5", 4);
        runs(c, "9-" + "-".repeat(37) + "5", 14);
        runs(c, "-2*-3", 6);
        runs(c, "---(2-9)", 7);
        refused(c, "-", 1);
        refused(c, "-".repeat(40), 40);
    }

    @Says(promise = 0, words = "a NUMBER of 1 to 3 digits")
    static void numbersHaveOneToThreeDigits(Check c) {
        runs(c, "7", 7);
        runs(c, "42", 42);
        runs(c, "007", 7);
        runs(c, "999-990", 9);
        refused(c, "0007", 3);
        refused(c, "5+1234", 5);
        refused(c, "/", 0);
        refused(c, ":", 0);
    }

    @Says(promise = 0, words = "an EXPRESSION in ( ) (at most 4 in one another)")
    static void fourBracketsAtMostInOneAnother(Check c) {
        runs(c, "((((7))))", 7);
        refused(c, "(((((7)))))", 4);
        runs(c, "((((1))))+((((2))))", 3);
        refused(c, "((((1))))+(((((2)))))", 14);
        runs(c, "(2+3)*4", 20);
        refused(c, "()", 1);
        refused(c, "(7", 2);
        refused(c, "7)", 1);
    }

    @Says(promise = 0, words = "l LEVEL, b BRIM, h HAIR, t TAP, k how many plugs are out")
    static void thingsAreOfTheLake(Check c) {
        PullThePlug x = Check.made("9920a-;5030b-;9999c-", "0", 5);
        x.days(4);
        x.sheet(2, 3, 60, -10);
        String[] rules = {"l-50", "b-50", "h", "t", "k"};
        int[] runs = {10, 49, 4, 2, 2};
        for (int i = 0; i < rules.length; i++) {
            Check.rule(x, rules[i]);
            c.due("RUN of 0 by " + rules[i], Check.lakeOf(x, 0, 8), runs[i]);
        }
        refused(c, "a", 0);
        refused(c, "L", 0);
        refused(c, "ll", 1);
        refused(c, "5l", 1);
        refused(c, "l5", 1);
    }

    @Says(promise = 0, words = "n DAY by 7 (rest)")
    static void dayBySevenIsTheRest(Check c) {
        PullThePlug x = Check.made("9990a-", "n", 1);
        for (int day = 0; day < 15; day++) {
            c.due("RUN of DAY " + day, Check.lakeOf(x, 0, 8), day % 7);
            x.days(1);
        }
    }

    @Says(promise = 0, words = "As ints, put to 0 .. LEVEL: RUN")
    static void rulesGoRoundAsInts(Check c) {
        runs(c, "999*999*999*5/999/999/99", 6);
        runs(c, "999*999*999*3", 0);
        runs(c, "-(512*512*512*16/-1/512/512/512)", 16);
        runs(c, "-(512*512*512*16)<0", 1);
        runs(c, "512*512*512*16-1>0", 1);
        runs(c, "512*512*512*15+512*512*512<0", 1);
    }

    @Says(promise = 0, words = "put to 0 .. LEVEL: RUN")
    static void runIsPutTo0ToLevel(Check c) {
        runs(c, "0-1", 0);
        runs(c, "0", 0);
        runs(c, "98", 98);
        runs(c, "99", 99);
        runs(c, "100", 99);
        PullThePlug x = Check.made("9900a-", "l+1", 1);
        x.sheet(2, 1, 20, 0);
        c.due("to LEVEL, not to BRIM", Check.lakeOf(x, 0, 8), 20);
        c.due("all runs out", x.days(1), 0);
    }

    @Says(promise = 0, words = "(0 of one whose plug is in)")
    static void runIs0IfThePlugIsIn(Check c) {
        PullThePlug x = Check.made("9900a-;9900b0", "5", 1);
        c.due("out", Check.lakeOf(x, 0, 8), 5);
        c.due("in", Check.lakeOf(x, 1, 8), 0);
        x.days(1);
        c.levels("a DAY", x, 94, 99);
    }

    // ---- Promise 5

    @Says(promise = 5, words = "THE TEXT is THE RULE (an empty one: none): 0.")
    static void anEmptyRuleIsNone(Check c) {
        PullThePlug x = Check.made("9900a-", "5", 1);
        c.due("told", Check.lakeOf(x, 0, 8), 5);
        c.due("an empty one", Check.rule(x, ""), 0);
        c.due("the first one again", Check.lakeOf(x, 0, 8), 33);
        c.due("told once more", Check.rule(x, "7"), 0);
        c.due("by it", Check.lakeOf(x, 0, 8), 7);
    }

    @Says(promise = 5, words = "-1 - p: likewise (40 signs).")
    static void aRuleThatEndsTooEarly(Check c) {
        refused(c, "l+", 2);
        refused(c, "(l", 2);
        refused(c, "(", 1);
        refused(c, "l<", 2);
        refused(c, "2*(3-", 5);
        refused(c, FORTY.substring(0, 38) + "1+", 40);
    }

    @Says(promise = 5, words = "-1 - p: likewise (40 signs).")
    static void aRuleOfMoreThan40Signs(Check c) {
        refused(c, FORTY + "9", 40);
        refused(c, FORTY + "x", 40);
        refused(c, FORTY + ")", 40);
        refused(c, FORTY.substring(0, 38) + "1+9", 40);
        refused(c, "(" + FORTY.substring(0, 38) + "1)", 40);
        refused(c, FORTY + FORTY, 40);
        refused(c, FORTY.substring(0, 38) + "1x9", 39);
        runs(c, "(" + FORTY.substring(0, 37) + "1)", 18 + 11);
    }

    @Says(promise = 5, words = "-1 - p: likewise (40 signs).")
    static void aSignThatCantStandInARule(Check c) {
        refused(c, "z", 0);
        refused(c, "" + (char) 0, 0);
        refused(c, "l" + (char) 255, 1);
        refused(c, "l*+b", 2);
        refused(c, "l==b", 2);
        refused(c, " l", 0);
        refused(c, "l ", 1);
        refused(c, "l(b)", 1);
        refused(c, "(l)b", 3);
        refused(c, "5;5", 1);
    }
}
