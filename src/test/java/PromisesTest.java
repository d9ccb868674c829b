import java.util.NoSuchElementException;

/** Each promise by hand: ordinary inputs, the edges that the document names, wrong inputs. */
public final class PromisesTest {
    /** 0: brim 30, tap 2, of a; 1: brim 12, leak 1, of b, into 0; 2: brim 20, tap 1, of a, into 0. */
    private static final String THREE = "3020a-;1201b0;2010a0";
    private static final String SIX = "9990a-;0500b0;0500c1;0500d2;0500a3;0509b4";
    private static final long THROWS = Check.THROWS;
    private static final Check check = new Check();

    public static void main(String[] args) {
        face();
        newObject();
        sign();
        end();
        lakes();
        lakesFaults();
        rule();
        ruleFaults();
        lake();
        sheet();
        days();
        dayEdges();
        plugs();
        combs();
        taps();
        gives();
        year();
        yearFaults();
        undo();
        later();
        driesAndBrims();
        marks();
        realm();
        courseAndBasin();
        order();
        meets();
        richest();
        swims();
        lets();
        just();
        fills();
        needs();
        crosses();
        rings();
        reads();
        threat();
        treaty();
        wants();
        evens();
        feared();
        heirs();
        duck();
        spoon();
        rests();
        law();
        years();
        keepAndAgain();
        count();
        row();
        refusedCallsLeaveTheRow();
        check.finish("PromisesTest");
    }

    private static PullThePlug three() {
        return Check.made(THREE);
    }

    private static void due(String what, long got, long want) {
        check.due(what, got, want);
    }

    private static void due(String what, PullThePlug x, long got, long want, long... row) {
        check.due(what, x, got, want, row);
    }

    private static void levels(String what, PullThePlug x, long... want) {
        for (int i = 0; i < want.length; i++) {
            due(what + ": LEVEL of " + i, Check.lakeOf(x, i, 5), want[i]);
        }
    }

    private static void face() {
        due("NONE", PullThePlug.NONE, -1);
        int methods = 0;
        for (java.lang.reflect.Method m : PullThePlug.class.getDeclaredMethods()) {
            methods += java.lang.reflect.Modifier.isPrivate(m.getModifiers()) ? 0 : 1;
        }
        due("methods of the face", methods, 49);
        due("public fields", PullThePlug.class.getFields().length, 1);
    }

    private static void newObject() {
        PullThePlug x = new PullThePlug();
        for (int what = 0; what <= 12; what++) {
            due("new count(" + what + ")", x.count(what), 0);
        }
        due("new row", Check.rowOf(x, 0), THROWS);
        due("new lake", Check.lakeOf(x, 0, 0), THROWS);
        due("new again", x.again(0) ? 1 : 0, 0);
        due("new undo", x.undo(), -1);
    }

    private static void sign() {
        PullThePlug x = new PullThePlug();
        for (int i = 1; i <= 20; i++) {
            due("sign " + i, x.sign(0x31323334), 4 * i);
        }
        due("sign 21", x.sign(0), -1);
        due("signs", x.count(11), 80);
        x.end(77);
        due("sign to 81", x.sign(0), -1);
        due("signs stay", x.count(11), 77);
        x.end(76);
        due("sign to 80", x.sign(0), 80);
        x.end(0);
        x.sign(0x31303030);
        x.sign(0x61E10000);
        x.end(6);
        due("a high byte is no sign of a LINE", x.lakes(), -6);
        x.sign(0x31393837);
        x.sign(0x642D0000);
        x.end(6);
        due("highest byte first", x.lakes(), 1);
        due("its BRIM", Check.lakeOf(x, 0, 0), 19);
        due("its LEAK", Check.lakeOf(x, 0, 2), 7);
        due("its KING", Check.lakeOf(x, 0, 3), 3);
    }

    private static void end() {
        PullThePlug x = new PullThePlug();
        due("end(1) of nothing", x.end(1) ? 1 : 0, 0);
        due("end(0) of nothing", x.end(0) ? 1 : 0, 1);
        x.sign(0x61626364);
        due("end(5)", x.end(5) ? 1 : 0, 0);
        due("end(-1)", x.end(-1) ? 1 : 0, 0);
        due("signs stay", x.count(11), 4);
        due("end(4)", x.end(4) ? 1 : 0, 1);
        due("end(3)", x.end(3) ? 1 : 0, 1);
        due("signs", x.count(11), 3);
        due("end(4) again", x.end(4) ? 1 : 0, 0);
        due("end of the least int", x.end(Integer.MIN_VALUE) ? 1 : 0, 0);
    }

    private static void lakes() {
        PullThePlug x = new PullThePlug();
        due("no LINES", x.lakes(), 0);
        due("three LINES", Check.lakes(x, THREE), 3);
        due("the text is read", x.count(11), 0);
        due("one LINE more", Check.lakes(x, "0799d2"), 1);
        due("LAKES", x.count(0), 4);
        due("DOWN that was there", Check.lakeOf(x, 3, 4), 2);
        due("LEVEL is BRIM", Check.lakeOf(x, 3, 5), 7);
        due("two LINES more", Check.lakes(x, "0100a3;0100a4"), 2);
        due("no room", Check.lakes(x, "0100a-"), -1);
        due("no room for a bad one", Check.lakes(x, "x"), -1);
        due("an empty one with no room", Check.lakes(x, ""), 0);
        PullThePlug y = new PullThePlug();
        due("six LINES", Check.lakes(y, SIX), 6);
        PullThePlug z = Check.made("1000a-;1000a-;1000a-;1000a-;1000a-");
        due("a LINE too many", Check.lakes(z, "1000a-;1000a-"), -8);
        due("a LINE too many ends early", Check.lakes(z, "1000a-;"), -8);
        due("none came", z.count(0), 5);
    }

    private static void lakesFaults() {
        String[] texts = {"x", "1", "1x", "00", "0x", "10", "10x", "100", "100-", "1000", "1000e", "1000A", "1000a",
            "1000a0", "1000ax", "1000a-x", "1000a-;", "1000a-;00", "1000a-;1000a1", "1000a-;1000a0;1000a2", " 1000a-"};
        int[] places = {0, 1, 1, 1, 1, 2, 2, 3, 3, 4, 4, 4, 5,
            5, 5, 6, 7, 8, 12, 19, 0};
        for (int i = 0; i < texts.length; i++) {
            PullThePlug x = new PullThePlug();
            due("lakes of " + texts[i], Check.lakes(x, texts[i]), -1 - places[i]);
            due("none came of " + texts[i], x.count(0), 0);
            due("text is gone of " + texts[i], x.count(11), 0);
        }
        due("42 signs", Check.lakes(new PullThePlug(), SIX + ";"), -42);
        due("42 signs, any", Check.lakes(new PullThePlug(), SIX + "x"), -42);
        due("80 signs", Check.lakes(new PullThePlug(), (SIX + SIX).substring(0, 80)), -42);
        due("a fault ahead of 41", Check.lakes(new PullThePlug(), SIX.substring(0, 40) + "x0"), -41);
        due("41 signs, the last a fault", Check.lakes(new PullThePlug(), SIX.substring(0, 40) + "5"), -41);
    }

    /** RUN of a LAKE of BRIM and LEVEL 99, TAP 7, whose plug is out. */
    private static long run(String rule) {
        PullThePlug x = Check.made("9970a-");
        x.pulls(0);
        due("rule " + rule, Check.rule(x, rule), 0);
        return Check.lakeOf(x, 0, 8);
    }

    private static void rule() {
        String[] rules = {"", "2+3*4", "20-3-4", "20/3/2", "9-7/2", "-7/2+9", "7/0+5", "--5", "5--3", "2*-3+9", "1<2+5",
            "(1<2)+5", "l-98", "b", "h", "t", "k", "n", "3=3", "3>3", "4>3", "3<3", "4=3", "0-5", "999", "((((7))))",
            "-(999*999*999*3/999/999/99)", "(1<2)<(3<3)", "6-(5-4)", "007", "2*(3+4)*5", "0/7+1", "-(0-50)", "---5+9"};
        long[] wants = {33, 14, 13, 3, 6, 6, 5, 5, 8, 3, 1,
            6, 1, 99, 0, 7, 1, 0, 1, 0, 1, 0, 0, 0, 99, 7,
            13, 0, 5, 7, 70, 1, 50, 4};
        for (int i = 0; i < rules.length; i++) {
            due("RUN by " + rules[i], run(rules[i]), wants[i]);
        }
        PullThePlug x = Check.made("9970a-;5000b0");
        x.pulls(0);
        x.days(9);
        Check.rule(x, "n");
        due("DAY by 7", Check.lakeOf(x, 0, 8), 2);
        Check.rule(x, "h*2+k");
        x.pulls(1);
        due("HAIR and plugs", Check.lakeOf(x, 0, 8), 20);
        Check.rule(x, "");
        x.combs(0);
        due("no rule is the first one", Check.lakeOf(x, 0, 8), (Check.lakeOf(x, 0, 5) + 2) / 3);
        String forty = "1+1+1+1+1+1+1+1+1+1+1+1+1+1+1+1+1+1+1+99";
        due("forty signs", run(forty), 99);
        PullThePlug y = Check.made("9970a-");
        y.pulls(0);
        y.sheet(2, 1, 60, 0);
        Check.rule(y, "l-50");
        due("l is LEVEL", Check.lakeOf(y, 0, 8), 10);
        Check.rule(y, "b-50");
        due("b is BRIM", Check.lakeOf(y, 0, 8), 49);
        due("the least int by -1", run("-(512*512*512*16/-1/512/512/512)"), 16);
    }

    private static void ruleFaults() {
        String[] texts = {"z", "l+", "l<b<h", "(l", "(((((l", "1000", "l l", "ll", "l5", "5l", ")", "()", "(l))", "l+*b",
            "*l", "l==b", "(l<b<h)", "-", "l-", "l(b)", "(l)b", "l<", "12+1234", "(((((", "L", "1<2=(3)"};
        int[] places = {0, 2, 3, 2, 4, 3, 1, 1, 1, 1, 0, 1, 3, 2,
            0, 2, 4, 1, 2, 1, 3, 2, 6, 4, 0, 3};
        for (int i = 0; i < texts.length; i++) {
            PullThePlug x = Check.made("9970a-");
            x.pulls(0);
            Check.rule(x, "5");
            due("rule of " + texts[i], Check.rule(x, texts[i]), -1 - places[i]);
            due("text is gone of " + texts[i], x.count(11), 0);
            due("THE RULE stays at " + texts[i], Check.lakeOf(x, 0, 8), 5);
        }
        String forty = "1+1+1+1+1+1+1+1+1+1+1+1+1+1+1+1+1+1+1+99";
        PullThePlug x = new PullThePlug();
        due("41 signs", Check.rule(x, forty + "9"), -41);
        due("41 signs, the last can't stand anyway", Check.rule(x, forty + "x"), -41);
        due("forty signs that can't end", Check.rule(x, forty.substring(0, 38) + "9+"), -41);
        due("a fault ahead", Check.rule(x, forty.substring(0, 38) + "x9999"), -39);
    }

    private static void lake() {
        PullThePlug x = three();
        long[] want = {12, 0, 1, 1, 0, 12, 0, 0, 0};
        for (int what = 0; what < 9; what++) {
            due("lake(1, " + what + ")", Check.lakeOf(x, 1, what), want[what]);
        }
        due("no DOWN", Check.lakeOf(x, 0, 4), -1);
        x.pulls(1);
        due("out", Check.lakeOf(x, 1, 6), 1);
        due("RUN", Check.lakeOf(x, 1, 8), 4);
        x.days(1);
        due("HAIR", Check.lakeOf(x, 1, 7), 1);
        due("RUN less HAIR", Check.lakeOf(x, 1, 8), 2);
        due("lake(3, 0)", Check.lakeOf(x, 3, 0), THROWS);
        due("lake(-1, 0)", Check.lakeOf(x, -1, 0), THROWS);
        due("lake(0, 9)", Check.lakeOf(x, 0, 9), THROWS);
        due("lake(0, -1)", Check.lakeOf(x, 0, -1), THROWS);
        due("lake(6, 0)", Check.lakeOf(x, 6, 0), THROWS);
        due("lake of the least int", Check.lakeOf(x, Integer.MIN_VALUE, 0), THROWS);
    }

    private static void sheet() {
        PullThePlug x = three();
        due("ints", x.sheet(2, 3, 5, 6), 5 + 11 + 17);
        levels("ints", x, 5, 11, 17);
        due("ints put to BRIM", x.sheet(2, 2, 5, 100), 17);
        levels("put to BRIM, behind it 0", x, 5, 12, 0);
        due("ints below 0", x.sheet(2, 3, -1, 1), 1);
        due("bytes", x.sheet(0, 3, 260, 0), 12);
        due("bytes with a sign", x.sheet(0, 3, 128, 0), 0);
        due("bytes 127", x.sheet(0, 1, 127, 0), 30);
        due("shorts", x.sheet(1, 3, 65536 + 7, 1), 7 + 8 + 9);
        due("shorts with a sign", x.sheet(1, 3, 32768, 0), 0);
        due("an int that wraps", x.sheet(2, 2, Integer.MAX_VALUE, 1), 30);
        levels("wrapped", x, 30, 0, 0);
        due("more entries than LAKES", x.sheet(2, 6, 1, 1), 6);
        due("no entries", x.sheet(2, 0, 9, 9), 0);
        x.sheet(2, 3, 4, 0);
        due("n below 0", x.sheet(1, -1, 1, 1), -2);
        due("nothing changes", x.count(4), 12);
        due("n above 6", x.sheet(0, 7, 1, 1), -1);
        due("another kind", x.sheet(4, 1, 1, 1), -1);
        due("another kind ahead of n", x.sheet(-1, -1, 1, 1), -1);
        due("n above 6 of a missing one", x.sheet(3, 7, 0, 0), -1);
        due("nothing changed", x.count(4), 12);
        due("missing, n below 0", x.sheet(3, -5, 0, 0), -3);
        due("all 0", x.count(4), 0);
        due("not DRIED", x.count(3), 0);
        due("not to be undone", x.count(9), 0);
        due("no LAKES", new PullThePlug().sheet(0, 6, 1, 1), 0);
    }

    private static void days() {
        PullThePlug x = three();
        x.pulls(1);
        due("a DAY", x, x.days(1), 57, 7, 0);
        levels("a DAY", x, 30, 7, 20);
        due("DAY", x.count(1), 1);
        due("five more", x, x.days(5), 50, 17, 1);
        due("DRIED", x.count(3), 1);
        due("SPILT", x.count(2), 24);
        due("no DAYS", x, x.days(0), 50, 0, 0);
        due("DAY", x.count(1), 6);
        due("60", x.days(60), 50);
        due("61", x.days(61), -1);
        due("-1", x.days(-1), -1);
        due("DAY", x.count(1), 66);
        due("no LAKES", new PullThePlug().days(2), 0);
    }

    private static void dayEdges() {
        PullThePlug x = Check.made("9000a-;9900b0;9900c1");
        Check.rule(x, "50");
        x.pulls(2);
        x.pulls(1);
        x.days(1);
        levels("all as it is ahead of it", x, 90, 99, 49);
        due("spilt at once", x.count(2), 50);
        x.days(1);
        levels("RUN is at most LEVEL", x, 90, 98, 0);
        due("DRIED once", x.count(3), 1);
        x.days(1);
        due("DRIED still once", x.count(3), 1);
        PullThePlug leak = Check.made("0509a-;0629a-");
        leak.days(1);
        levels("LEAK takes what there is, TAP comes behind", leak, 0, 2);
        PullThePlug spilt = Check.made("0190a-;0190a-;0190a-;0190a-;0190a-;0190a-");
        for (int i = 0; i < 3; i++) {
            spilt.days(60);
        }
        due("SPILT", spilt.count(2), 9720);
        due("SPILT goes to 9999", spilt, spilt.days(60), 6, 279, 0);
        due("SPILT at most", spilt.count(2), 9999);
        due("no more", spilt, spilt.days(1), 6, 0, 0);
        due("no more by years", spilt, spilt.years(1, 60), 6, 0, 0);
        due("HAIR at most 9", hairBehind(60), 9);
        due("HAIR", hairBehind(8), 8);
        PullThePlug dried = Check.made("0110a-;0110a-;0110a-;0110a-;0110a-;0110a-");
        Check.rule(dried, "l");
        for (int i = 0; i < 166; i++) {
            dried.sheet(3, 0, 0, 0);
            dried.days(1);
            Check.year(dried, "t00t10t20t30t40t50p0p1p2p3p4p5n1s0s1s2s3s4s5t01t11t21");
            Check.year(dried, "t31t41t51");
        }
        due("DRIED", dried.count(3), 996);
        due("DRIED more at most", dried.sheet(3, 0, 0, 0), -3);
        dried.days(1);
        due("no TAP", Check.year(dried, "t00t10t20t30t40t50p0p1p2p3p4p5"), 12);
        due("DRIED grew", dried, dried.days(1), 0, 0, 3);
        due("DRIED 999", dried.count(3), 999);
    }

    private static long hairBehind(int days) {
        PullThePlug x = three();
        x.pulls(0);
        x.days(days);
        due("no HAIR where the plug is in", Check.lakeOf(x, 1, 7), 0);
        return x.count(6);
    }

    private static void plugs() {
        PullThePlug x = three();
        due("pulls(2)", x.pulls(2), 1);
        due("pulls(0)", x.pulls(0), 2);
        due("pulls(0) again", x.pulls(0), -2);
        due("pulls(3)", x.pulls(3), -1);
        due("pulls(-1)", x.pulls(-1), -1);
        due("out", x.count(5), 5);
        due("stops(2)", x.stops(2), 1);
        due("stops(2) again", x.stops(2), -2);
        due("stops(1)", x.stops(1), -2);
        due("stops(3)", x.stops(3), -1);
        due("stops(-1)", x.stops(-1), -1);
        due("out", x.count(5), 1);
        due("what can be undone", x.count(9), 3);
        x.days(2);
        x.stops(0);
        due("HAIR stays", Check.lakeOf(x, 0, 7), 2);
    }

    private static void combs() {
        PullThePlug x = three();
        due("no HAIR", x.combs(1), -2);
        x.pulls(1);
        x.days(4);
        due("HAIR", x.combs(1), 4);
        due("no more", x.combs(1), -2);
        due("none left", Check.lakeOf(x, 1, 7), 0);
        due("combs(3)", x.combs(3), -1);
        due("combs(-1)", x.combs(-1), -1);
        due("what can be undone", x.count(9), 3);
    }

    private static void taps() {
        PullThePlug x = three();
        due("taps(0, 9)", x.taps(0, 9), 12);
        due("taps(0, 9) again", x.taps(0, 9), -2);
        due("taps(0, 0)", x.taps(0, 0), 19);
        due("TAP", Check.lakeOf(x, 0, 1), 0);
        due("taps(0, 10)", x.taps(0, 10), -1);
        due("taps(0, -1)", x.taps(0, -1), -1);
        due("taps(3, 0)", x.taps(3, 0), -1);
        due("taps(-1, 0)", x.taps(-1, 0), -1);
        due("what can be undone", x.count(9), 2);
    }

    private static void gives() {
        PullThePlug x = three();
        due("gives(1, 3)", x.gives(1, 3), 11);
        due("gives(1, 3) again", x.gives(1, 3), -2);
        due("gives(1, 0)", x.gives(1, 0), 13);
        due("KING", Check.lakeOf(x, 1, 3), 0);
        due("gives(1, 4)", x.gives(1, 4), -1);
        due("gives(1, -1)", x.gives(1, -1), -1);
        due("gives(3, 0)", x.gives(3, 0), -1);
        due("gives(-1, 0)", x.gives(-1, 0), -1);
        due("what can be undone", x.count(9), 2);
    }

    private static void year() {
        PullThePlug x = three();
        due("an empty one", x, Check.year(x, ""), 0, 0, 62);
        due("nothing to undo", x.count(9), 0);
        due("seven ACTS", x, Check.year(x, "p1n6c1s1t15g1an1"), 7, 0, 55);
        due("the text is read", x.count(11), 0);
        due("TAP", Check.lakeOf(x, 1, 1), 5);
        due("KING", Check.lakeOf(x, 1, 3), 0);
        due("HAIR", Check.lakeOf(x, 1, 7), 0);
        due("DAY", x.count(1), 7);
        due("one to undo", x.count(9), 1);
        due("undone as one", x.undo(), 0);
        due("as ahead", x.count(4), 62);
        due("till one can't be", x, Check.year(x, "p0p0n9"), 1, 1, 62);
        due("no DAY", x.count(1), 0);
        due("none can be", x, Check.year(x, "c0n1"), 0, 1, 62);
        due("not to undo", x.count(9), 1);
        due("none such", x, Check.year(x, "p9"), 0, 1, 62);
        due("no DAYS is an ACT", x, Check.year(x, "n0"), 1, 0, 62);
        due("to undo", x.count(9), 2);
        due("t of none such", x, Check.year(x, "t30"), 0, 1, 62);
        due("g as it is", x, Check.year(x, "g0a"), 0, 1, 62);
        due("sixty signs", Check.year(x, "n0n0n0n0n0n0n0n0n0n0n0n0n0n0n0n0n0n0n0n0n0n0n0n0n0n0n0n0n0n1"), 30);
    }

    private static void yearFaults() {
        String[] texts = {"x", "n", "nx", "p", "px", "s", "sa", "c", "t", "t0", "t0a", "ta", "g", "g0", "g0e", "g00",
            "ga", "n1;", "n1 ", "n1x", "n12", "p0n"};
        int[] places = {0, 1, 1, 1, 1, 1, 1, 1, 1, 2, 2, 1, 1, 2, 2, 2,
            1, 2, 2, 2, 2, 3};
        for (int i = 0; i < texts.length; i++) {
            PullThePlug x = three();
            due("year of " + texts[i], Check.year(x, texts[i]), -1 - places[i]);
            due("nothing is done of " + texts[i], x.count(1) + x.count(5) + x.count(9) + x.count(10), 0);
            due("text is gone of " + texts[i], x.count(11), 0);
        }
        String sixty = "n0n0n0n0n0n0n0n0n0n0n0n0n0n0n0n0n0n0n0n0n0n0n0n0n0n0n0n0n0n1";
        PullThePlug x = three();
        due("61 signs", Check.year(x, sixty + "n"), -61);
        due("62 signs", Check.year(x, sixty + "n1"), -61);
        due("an ACT over 60", Check.year(x, sixty.substring(0, 58) + "t00"), -61);
        due("it ends early at 60", Check.year(x, sixty.substring(0, 58) + "t0"), -61);
        due("a fault ahead", Check.year(x, sixty.substring(0, 58) + "nx99"), -60);
    }

    private static void undo() {
        PullThePlug x = three();
        due("none", x.undo(), -1);
        x.pulls(2);
        x.days(1);
        x.days(0);
        x.taps(0, 5);
        x.gives(0, 2);
        x.combs(2);
        x.stops(2);
        due("six", x.count(9), 6);
        due("stops back", x.undo(), 5);
        due("out", x.count(5), 4);
        due("combs back", x.undo(), 4);
        due("HAIR", x.count(6), 1);
        due("gives back", x.undo(), 3);
        due("KING", Check.lakeOf(x, 0, 3), 0);
        due("taps back", x.undo(), 2);
        due("TAP", Check.lakeOf(x, 0, 1), 2);
        due("SPILT", x.count(2), 9);
        due("days back", x.undo(), 1);
        due("SPILT, DAY, HAIR", x.count(2) + x.count(1) + x.count(6), 0);
        levels("back", x, 30, 12, 20);
        due("pulls back", x.undo(), 0);
        due("none out", x.count(5), 0);
        due("none left", x.undo(), -1);
        x.pulls(0);
        for (int i = 0; i < 12; i++) {
            x.days(1);
        }
        due("twelve are kept", x.count(9), 12);
        for (int i = 11; i >= 0; i--) {
            due("back", x.undo(), i);
            due("DAY", x.count(1), i);
        }
        due("the thirteenth is gone", x.undo(), -1);
        due("its plug is out", x.count(5), 1);
        undoIsForgotten();
    }

    private static void undoIsForgotten() {
        PullThePlug x = three();
        x.pulls(0);
        x.keep(0);
        Check.lakes(x, "");
        due("an empty lakes() forgets none", x.count(9), 1);
        Check.lakes(x, "x");
        due("a refused lakes() forgets none", x.count(9), 1);
        x.again(1);
        due("a refused again() forgets none", x.count(9), 1);
        x.sheet(3, 0, 0, 0);
        Check.rule(x, "1");
        due("sheet() and rule() forget none", x.count(9), 1);
        due("undone behind a sheet", x.undo(), 0);
        due("LEVELS as ahead of it", x.count(4), 62);
        x.pulls(0);
        due("again", x.again(0) ? 1 : 0, 1);
        due("forgotten", x.undo(), -1);
        x.pulls(1);
        Check.lakes(x, "1000a-");
        due("lakes() forgets", x.undo(), -1);
        due("plugs stay", x.count(5), 3);
    }

    private static void later() {
        PullThePlug x = three();
        due("later(1, 5)", x, x.later(1, 5), 7, 30, 7, 20);
        due("later(1, 0)", x, x.later(1, 0), 12, 30, 12, 20);
        due("later(1, 99)", x, x.later(1, 99), 0, 30, 0, 20);
        due("later(3, 0)", x.later(3, 0), -1);
        due("later(-1, 0)", x.later(-1, 0), -1);
        due("later(0, 100)", x.later(0, 100), -1);
        due("later(0, -1)", x.later(0, -1), -1);
        due("nothing changed", x.count(1) + x.count(2) + x.count(9), 0);
        x.pulls(1);
        x.days(1);
        due("with HAIR and the plug", x, x.later(1, 1), 4, 30, 4, 20);
    }

    private static void driesAndBrims() {
        PullThePlug x = three();
        due("dries(1)", x, x.dries(1), 12, 50);
        due("dries(0)", x.dries(0), -2);
        due("dries(3)", x.dries(3), -1);
        due("dries(-1)", x.dries(-1), -1);
        PullThePlug far = Check.made("9901a-");
        due("dries in 99", far, far.dries(0), 99, 0);
        PullThePlug over = Check.made("9901a-;9900b0");
        Check.rule(over, "n=0");
        over.pulls(1);
        due("dries in none of 99", over.dries(0), -2);
        x.sheet(2, 3, 10, 0);
        due("brims(0)", x, x.brims(0), 10, 0);
        due("brims(2)", x, x.brims(2), 10, 0);
        due("brims(1)", x.brims(1), -2);
        due("brims(3)", x.brims(3), -1);
        due("brims(-1)", x.brims(-1), -1);
        PullThePlug y = Check.made("0550a-;9910b-");
        y.sheet(2, 2, 0, 0);
        due("SPILT till then", y, y.brims(1), 99, 98 * 5);
        due("brims now", three().brims(0), 0);
        y.days(2);
        y.sheet(2, 2, 5, 93);
        due("SPILT from now on", y, y.brims(1), 1, 5);
        y.sheet(3, 0, 0, 0);
        due("dries now", y, y.dries(1), 0, 0);
        y.taps(1, 0);
        due("brims in none", y.brims(1), -2);
    }

    private static void marks() {
        PullThePlug x = three();
        due("marks(1, 5)", x, x.marks(1, 5), 7, 5, 12, 0);
        due("marks(1, 99)", x, x.marks(1, 99), 0, 12, 12, 0);
        due("marks(0, 0)", x, x.marks(0, 0), 30, 0, 30, 0);
        x.sheet(2, 3, 10, 0);
        due("it grows", x, x.marks(0, 99), 10, 0, 30, 10);
        due("marks(3, 0)", x.marks(3, 0), -1);
        due("marks(-1, 0)", x.marks(-1, 0), -1);
        due("marks(0, 100)", x.marks(0, 100), -1);
        due("marks(0, -1)", x.marks(0, -1), -1);
    }

    private static void realm() {
        PullThePlug x = three();
        x.sheet(2, 3, 10, 1);
        due("realm(0)", x, x.realm(0), 5, 22, 50);
        due("realm(1)", x, x.realm(1), 2, 11, 12);
        due("realm(3)", x, x.realm(3), 0, 0, 0);
        due("realm(4)", x.realm(4), -1);
        due("realm(-1)", x.realm(-1), -1);
    }

    private static void courseAndBasin() {
        PullThePlug x = Check.made(SIX);
        due("course(5)", x, x.course(5), 6, 5, 4, 3, 2, 1, 0);
        due("course(0)", x, x.course(0), 1, 0);
        due("course(6)", x.course(6), -1);
        due("course(-1)", x.course(-1), -1);
        due("basin(1)", x, x.basin(1), 60, 20, 1);
        due("basin(5)", x, x.basin(5), 0, 0, 0);
        due("basin(6)", x.basin(6), -1);
        due("basin(-1)", x.basin(-1), -1);
        PullThePlug y = Check.made("1000a-;1100a-;1200a0;1300a1;1400a2;1500a0");
        due("basin(0)", y, y.basin(0), 4 + 16 + 32, 12 + 14 + 15, 2);
        due("course(4)", y, y.course(4), 3, 4, 2, 0);
    }

    private static void order() {
        PullThePlug x = Check.made("0901a-;0601a-;0602a-;0101a-");
        due("order(99)", x, x.order(99), 4, 3, 2, 1, 0);
        due("order(5)", x, x.order(5), 2, 3, 2);
        due("order(0)", x, x.order(0), 0);
        x.sheet(2, 4, 3, 0);
        due("like ones by numbers", x, x.order(9), 4, 3, 2, 0, 1);
        x.sheet(3, 0, 0, 0);
        due("now", x, x.order(0), 4, 0, 1, 2, 3);
        due("order(100)", x.order(100), -1);
        due("order(-1)", x.order(-1), -1);
        PullThePlug y = Check.made("0511a-;0590a-");
        Check.rule(y, "l");
        y.taps(1, 0);
        y.pulls(1);
        y.sheet(2, 2, 5, 0);
        due("once dry counts once", y, y.order(3), 1, 1);
    }

    private static void meets() {
        PullThePlug x = three();
        due("none of these", x.meets(0, 2), -2);
        due("like ones", x.meets(0, 0), -1);
        due("meets(0, 3)", x.meets(0, 3), -1);
        due("meets(3, 0)", x.meets(3, 0), -1);
        due("meets(-1, 0)", x.meets(-1, 0), -1);
        x.sheet(2, 3, 4, 0);
        due("now", x, x.meets(0, 1), 0, 4);
        x.sheet(2, 2, 4, 6);
        due("in two", x, x.meets(0, 1), 2, 8);
        due("the other way", x, x.meets(1, 0), 2, 8);
        PullThePlug far = Check.made("9901a-;0100a-");
        far.sheet(2, 2, 99, -99);
        due("in 99", far, far.meets(0, 1), 99, 0);
    }

    private static void richest() {
        PullThePlug x = three();
        due("richest(0)", x, x.richest(0), 0, 50, 12);
        x.gives(0, 3);
        due("richest(5)", x, x.richest(5), 3, 30, 27);
        x.sheet(3, 0, 0, 0);
        due("of equal ones the first", x, x.richest(0), 0, 0, 0);
        due("richest(1)", x, x.richest(1), 3, 2, 1);
        due("richest(100)", x.richest(100), -1);
        due("richest(-1)", x.richest(-1), -1);
    }

    private static void swims() {
        PullThePlug x = three();
        due("swims(1, 10, 5)", x, x.swims(1, 10, 5), 2, 2, 1);
        due("swims(1, 12, 5)", x, x.swims(1, 12, 5), 0, 0, 0);
        due("swims(1, 0, 99)", x, x.swims(1, 0, 99), 99, 99, 1);
        x.sheet(2, 3, 10, 0);
        due("it rises", x, x.swims(0, 15, 9), 7, 7, 3);
        Check.rule(x, "(n=3)*9");
        x.pulls(0);
        x.sheet(2, 1, 20, 0);
        due("with a gap", x, x.swims(0, 20, 10), 9, 6, 1);
        due("one DAY", x, x.swims(0, 0, 1), 1, 1, 1);
        due("n 0", x.swims(0, 0, 0), -1);
        due("n 100", x.swims(0, 0, 100), -1);
        due("v 100", x.swims(0, 100, 1), -1);
        due("v -1", x.swims(0, -1, 1), -1);
        due("lake 3", x.swims(3, 0, 1), -1);
        due("lake -1", x.swims(-1, 0, 1), -1);
    }

    private static void lets() {
        PullThePlug x = three();
        due("lets(1, 6)", x, x.lets(1, 6), 1, 2);
        due("lets(1, 12)", x, x.lets(1, 12), 0, 0);
        due("lets(1, 5)", x.lets(1, 5), -2);
        due("lets(1, 0)", x.lets(1, 0), -2);
        due("lets(1, 40)", x, x.lets(1, 40), 0, 0);
        due("lets(1, 41)", x.lets(1, 41), -1);
        due("lets(1, -1)", x.lets(1, -1), -1);
        due("lets(3, 1)", x.lets(3, 1), -1);
        due("lets(-1, 1)", x.lets(-1, 1), -1);
        PullThePlug y = Check.made("1000a-;1000a-;1000a-");
        Check.rule(y, "k*2");
        y.pulls(2);
        due("the least of as few", y, y.lets(2, 3), 1, 1);
        due("two", y, y.lets(2, 2), 2, 3);
        due("one put in", y, y.lets(2, 5), 0, 0);
        y.pulls(0);
        Check.rule(y, "(k<2)*9+1");
        due("touched is put in, too", y, y.lets(2, 1), 1, 1);
    }

    private static void just() {
        PullThePlug x = three();
        due("just(2, 12)", x, x.just(2, 12), 0, 0);
        due("just(2, 6)", x, x.just(2, 6), 1, 2);
        due("just(0, 6)", x, x.just(0, 6), 0, 0);
        due("just(7, 5)", x.just(7, 5), -2);
        due("just(0, 0)", x, x.just(0, 0), 0, 0);
        due("just(8, 1)", x.just(8, 1), -1);
        due("just(-1, 1)", x.just(-1, 1), -1);
        due("just(0, 41)", x.just(0, 41), -1);
        due("just(0, -1)", x.just(0, -1), -1);
        PullThePlug y = Check.made("1000a-;1000a-;1000a-");
        Check.rule(y, "l");
        due("all others not", y, y.just(5, 1), 2, 5);
        due("all", y, y.just(7, 40), 3, 7);
        y.pulls(1);
        due("one is put in", y, y.just(1, 1), 2, 3);
    }

    private static void fills() {
        PullThePlug x = three();
        due("fills(1, 1)", x, x.fills(1, 1), 57, 2);
        due("fills(0, 0)", x, x.fills(0, 0), 62, 0);
        due("fills(2, 0), the least", x, x.fills(2, 0), 62, 3);
        due("fills(4, 1)", x.fills(4, 1), -2);
        due("fills(7, 1)", x.fills(7, 1), -1);
        due("fills(-1, 1)", x.fills(-1, 1), -1);
        due("fills(1, 41)", x.fills(1, 41), -1);
        due("fills(1, -1)", x.fills(1, -1), -1);
        x.pulls(0);
        due("all others in", x, x.fills(0, 1), 61, 0);
        x.sheet(3, 0, 0, 0);
        due("all dry", x, x.fills(3, 0), 0, 7);
    }

    private static void needs() {
        PullThePlug x = three();
        due("needs(1, 12, 1)", x, x.needs(1, 12, 1), 1, 12);
        due("needs(1, 13, 1)", x.needs(1, 13, 1), -2);
        due("needs(0, 0, 0)", x, x.needs(0, 0, 0), 0, 30);
        due("needs(1, 9, 60)", x, x.needs(1, 9, 60), 1, 12);
        x.sheet(3, 0, 0, 0);
        due("needs(1, 10, 2)", x, x.needs(1, 10, 2), 6, 11);
        due("needs(0, 9, 1)", x, x.needs(0, 9, 1), 9, 9);
        due("needs(0, 10, 1)", x.needs(0, 10, 1), -2);
        due("needs(1, 10, 0)", x.needs(1, 10, 0), -2);
        due("TAP stays", Check.lakeOf(x, 1, 1), 0);
        due("v 100", x.needs(0, 100, 1), -1);
        due("v -1", x.needs(0, -1, 1), -1);
        due("n 61", x.needs(0, 1, 61), -1);
        due("n -1", x.needs(0, 1, -1), -1);
        due("lake 3", x.needs(3, 1, 1), -1);
        due("lake -1", x.needs(-1, 1, 1), -1);
    }

    private static void crosses() {
        PullThePlug x = three();
        due("crosses(1)", x, x.crosses(1), 0, 1008);
        x.pulls(1);
        due("behind a pull", x, x.crosses(1), 2, 1006);
        due("crosses(0)", x.crosses(0), -1);
        due("crosses(41)", x.crosses(41), -1);
        due("no LAKES", new PullThePlug().crosses(40), -2);
        due("another n ahead of no LAKES", new PullThePlug().crosses(0), -1);
        PullThePlug hair = Check.made("5000a-");
        hair.pulls(0);
        hair.days(5);
        due("LEVEL", hair.count(4), 13);
        due("HAIR taken out", hair, hair.crosses(1), 0, 1005);
        PullThePlug alike = Check.made("5000a-;5000b-");
        due("of equal ones the first", alike, alike.crosses(40), 0, 1037);
        PullThePlug more = Check.made("5000a-;5000b-");
        Check.rule(more, "(k=1)*5");
        more.pulls(0);
        more.sheet(2, 2, 20, 0);
        due("it is as it was for 0, more for 1", more, more.crosses(2), 0, 1000);
        PullThePlug only = Check.made("5000a-");
        Check.rule(only, "(h=1)*5");
        only.pulls(0);
        only.days(1);
        due("it is more", only, only.crosses(1), 0, 995);
    }

    private static void rings() {
        PullThePlug x = three();
        due("no rings", x, x.leaks(), 27, 1, 0, 1);
        due("ring(1, 1, 11)", x.ring(1, 1, 11), 1);
        due("leaks not of 1", x, x.leaks(), 18, 1, 0, 1);
        due("washes", x.washes(), 1);
        due("washes again", x.washes(), 0);
        due("ring(1, 1, 9)", x.ring(1, 1, 9), 1);
        due("one leak", x, x.leaks(), 1, 0, 1, 2);
        due("LEAK stays", Check.lakeOf(x, 1, 2), 1);
        due("ring(1, 2, 6)", x.ring(1, 2, 6), 2);
        due("as read", x, x.leaks(), 1, 0, 1, 2);
        due("ring(1, 2, 7)", x.ring(1, 2, 7), 3);
        due("none", x, x.leaks(), 0, 0);
        due("reads of none", x.reads(), -2);
        due("lake 3", x.ring(3, 0, 0), -1);
        due("lake -1", x.ring(-1, 0, 0), -1);
        due("day 21", x.ring(0, 21, 0), -1);
        due("day -1", x.ring(0, -1, 0), -1);
        due("level 100", x.ring(0, 0, 100), -1);
        due("level -1", x.ring(0, 0, -1), -1);
        for (int i = 4; i <= 10; i++) {
            due("ring " + i, x.ring(0, 20, 99), i);
        }
        due("an eleventh", x.ring(0, 0, 0), -1);
        due("ten", x.count(8), 10);
        due("all washed off", x.washes(), 10);
        x.ring(0, 20, 26);
        due("a ring of the last DAY", x, x.leaks(), 0, 0);
        x.washes();
        x.ring(0, 20, 10);
        due("leak of 3, TAP 2", x, x.leaks(), 1, 0, 0, 3);
        due("rings of no LAKES", new PullThePlug().leaks(), 0);
        PullThePlug y = Check.made("9900a-;6000b0");
        y.sheet(2, 2, 0, 60);
        y.pulls(1);
        y.ring(0, 2, 30);
        due("3 out of 0, or 7, 8, 9 out of 1 that runs into it", y, y.leaks(), 4, 0, 0, 3);
    }

    private static void reads() {
        PullThePlug x = three();
        x.ring(1, 1, 11);
        due("reads", x, x.reads(), 43, 10);
        x.washes();
        x.ring(1, 1, 9);
        due("one left is the least anywhere", x, x.reads(), 0, 1);
        due("no LAKES", new PullThePlug().reads(), -2);
        PullThePlug y = Check.made("9900a-");
        due("first DAY tells all", y, y.reads(), 1, 1);
        PullThePlug z = Check.made("9990a-");
        due("TAP 9 hides all", z, z.reads(), 0, 9);
        PullThePlug late = Check.made("9900a-;9900b0");
        Check.rule(late, "(k=1)*(l<2)");
        late.pulls(0);
        late.taps(1, 9);
        due("a leak of 1 in 9 of TAP hides", late, late.reads(), 1, 9);
        PullThePlug last = Check.made("0412a-;4121a0");
        Check.year(last, "p0p1");
        due("the last DAY tells most", last, last.reads(), 20, 9);
        x.washes();
        x.ring(0, 20, 10);
        due("a ring of the last DAY leaves one", x, x.reads(), 0, 1);
        PullThePlug w = Check.made("0900a-");
        w.sheet(2, 1, 5, 0);
        due("leaks of 5 and more are alike", w, w.reads(), 1, 5);
    }

    private static void threat() {
        PullThePlug x = three();
        due("threat(7)", x, x.threat(7), 1, 0, 6);
        due("threat(0)", x, x.threat(0), 0);
        due("threat(2)", x, x.threat(2), 1, 1, 12);
        due("threat(6)", x, x.threat(6), 1, 2, 8);
        x.sheet(2, 3, 9, 0);
        due("alike", x, x.threat(3), 0);
        due("three alike", x, x.threat(7), 1, 0, 9);
        due("threat(8)", x.threat(8), -1);
        due("threat(-1)", x.threat(-1), -1);
        due("threat of the least int", x.threat(Integer.MIN_VALUE), -1);
        PullThePlug y = Check.made("1000a-;0300a-;0500a-");
        due("by 0 at first", y, y.threat(7), 1, 0, 4);
        y.sheet(2, 3, 1, 1);
        due("1, 2, 3", y, y.threat(7), 0);
    }

    private static void treaty() {
        PullThePlug x = three();
        due("treaty(50)", x, x.treaty(50), 1, 1, 1);
        due("treaty(0)", x, x.treaty(0), 1, 0, 0);
        due("treaty(60)", x, x.treaty(60), 1, 3, 3);
        due("treaty(62)", x, x.treaty(62), 1, 3, 3);
        due("treaty(63)", x, x.treaty(63), 0, 0, 0);
        due("treaty(12)", x, x.treaty(12), 2, 3, 0);
        due("treaty(13)", x, x.treaty(13), 1, 1, 1);
        due("treaty(999)", x, x.treaty(999), 0, 0, 0);
        due("treaty(1000)", x.treaty(1000), -1);
        due("treaty(-1)", x.treaty(-1), -1);
        PullThePlug y = Check.made("1000a-;1000b-;1000c-;1500d-");
        due("two of them, d always or abc", y, y.treaty(30), 4, 15, 0);
        due("b, c or a with d", y, y.treaty(25), 4, 15, 0);
        due("all but one", y, y.treaty(35), 3, 15, 8);
    }

    private static void wants() {
        PullThePlug x = three();
        due("wants(0)", x, x.wants(0), 0, 0);
        due("wants(1)", x, x.wants(1), 1, 1);
        due("wants(2)", x, x.wants(2), 2, 3);
        due("wants(4)", x.wants(4), -1);
        due("wants(-1)", x.wants(-1), -1);
        x.sheet(2, 2, 10, 0);
        due("half is not more than half", x, x.wants(1), 1, 1);
        x.sheet(2, 3, 0, 1);
        due("the other half is not, either", x, x.wants(1), 1, 4);
        PullThePlug y = Check.made("0100a-;0100a-");
        due("all", y, y.wants(3), 2, 3);
        x.sheet(3, 0, 0, 0);
        due("by none", x.wants(0), -2);
        due("no LAKES", new PullThePlug().wants(0), -2);
    }

    private static void evens() {
        PullThePlug x = three();
        due("evens", x, x.evens(), 2, 6);
        x.sheet(2, 3, 4, 0);
        due("the least of as good ones", x, x.evens(), 4, 2);
        x.sheet(2, 2, 9, 0);
        due("evenly", x, x.evens(), 0, 2);
        x.sheet(2, 1, 9, 0);
        due("nothing is as good", x, x.evens(), 9, 0);
        x.sheet(2, 3, 24, -10);
        due("24 against 12 and 4", x, x.evens(), 8, 6);
        PullThePlug two = Check.made("0800a-;0900a-");
        due("two", two, two.evens(), 1, 2);
        PullThePlug none = new PullThePlug();
        due("no LAKES", none, none.evens(), 0, 0);
        PullThePlug one = Check.made("4400a-");
        due("one", one, one.evens(), 44, 0);
    }

    private static void feared() {
        PullThePlug x = three();
        due("feared", x, x.feared(), 0, 12);
        x.gives(0, 3);
        due("the one who has most", x, x.feared(), 3, 32);
        x.sheet(3, 0, 0, 0);
        due("of equal ones the first", x, x.feared(), 0, 0);
    }

    private static void heirs() {
        PullThePlug x = three();
        due("a", x, Check.heirs(x, "a"), 12, 1);
        due("the text is read", x.count(11), 0);
        due("bb", x, Check.heirs(x, "bb"), 50, 0, 2);
        due("ab", x, Check.heirs(x, "ab"), 42, 1, 0);
        due("ba", x, Check.heirs(x, "ba"), 42, 0, 1);
        due("c", x, Check.heirs(x, "c"), 30, 0);
        due("cdc", x, Check.heirs(x, "cdc"), 62, 0, 1, 2);
        due("aa", x, Check.heirs(x, "aa"), 12, -1, 1);
        due("cccccc", x, Check.heirs(x, "cccccc"), 62, -1, -1, -1, 0, 1, 2);
        due("none", Check.heirs(x, ""), -1);
        due("ae", Check.heirs(x, "ae"), -2);
        due("seven", Check.heirs(x, "aaaaaaa"), -7);
        due("seven, any", Check.heirs(x, "aaaaaax"), -7);
        due("A", Check.heirs(x, "A"), -1);
        due("the text is gone", x.count(11), 0);
        x.sheet(3, 0, 0, 0);
        due("a dry one is worth none", x, Check.heirs(x, "c"), 0, -1);
        PullThePlug y = Check.made("1000a-;1000b-;1000c-");
        due("the least row", y, Check.heirs(y, "ba"), 20, 0, 1);
        due("the least row, crossed", y, Check.heirs(y, "ab"), 20, 1, 0);
        PullThePlug none = new PullThePlug();
        due("no LAKES", none, Check.heirs(none, "ab"), 0, -1, -1);
    }

    private static void duck() {
        PullThePlug x = three();
        due("duck(1, 2, 2)", x, x.duck(1, 2, 2), 0, 1, 2);
        due("duck(1, 1, 1)", x, x.duck(1, 1, 1), 0, 0, 1);
        due("duck(0, 0, 0)", x, x.duck(0, 0, 0), 0, 1, 1);
        due("duck(0, 1, 0)", x, x.duck(0, 1, 0), 0, 0, 1);
        due("duck(1, 0, 1)", x, x.duck(1, 0, 1), 0, 1, 1);
        due("duck(3, 0, 1)", x.duck(3, 0, 1), -1);
        due("duck(0, 3, 1)", x.duck(0, 3, 1), -1);
        due("duck(-1, 0, 1)", x.duck(-1, 0, 1), -1);
        due("duck(0, -1, 1)", x.duck(0, -1, 1), -1);
        due("duck(0, 0, 11)", x.duck(0, 0, 11), -1);
        due("duck(0, 0, -1)", x.duck(0, 0, -1), -1);
        PullThePlug y = Check.made(SIX);
        due("a chain", y, y.duck(5, 0, 5), 0, 1, 16);
        PullThePlug alone = Check.made("1000a-;1000a-");
        due("it stays", alone, alone.duck(1, 1, 10), 0, 1, 1);
        PullThePlug star = Check.made("1000a-;1000a0;1000a0;1000a0;1000a0;1000a0");
        due("a star", star, star.duck(0, 3, 9), 0, 1, 5);
        PullThePlug uneven = Check.made("1000a-;1000a0;1000a0;1000a0;1000a3;1000a3");
        due("three ways twice", uneven, uneven.duck(1, 4, 3), 0, 1, 9);
        due("ten DAYS", uneven, uneven.duck(0, 0, 10), 0, 35839, 59049);
    }

    private static void spoon() {
        PullThePlug x = three();
        due("spoon(1, 5, 2)", x, x.spoon(1, 5, 2), 0, 10);
        due("spoon(1, 9, 3)", x, x.spoon(1, 9, 3), 0, 11);
        due("spoon(1, 9, 0)", x, x.spoon(1, 9, 0), 12, 0);
        due("spoon(0, 1, 60)", x, x.spoon(0, 1, 60), 30, 60);
        due("LEVEL stays", x.count(4), 62);
        due("v 0", x.spoon(1, 0, 1), -1);
        due("v 10", x.spoon(1, 10, 1), -1);
        due("n 61", x.spoon(1, 1, 61), -1);
        due("n -1", x.spoon(1, 1, -1), -1);
        due("lake 3", x.spoon(3, 1, 1), -1);
        due("lake -1", x.spoon(-1, 1, 1), -1);
        x.pulls(1);
        due("ahead of the DAY", x, x.spoon(1, 9, 1), 1, 9);
    }

    private static void rests() {
        PullThePlug x = new PullThePlug();
        due("rests(0)", x, x.rests(0), 4, 0, 0);
        due("rests(1)", x, x.rests(1), 5, 0, 1);
        due("rests(2)", x, x.rests(2), 4, 1, 1);
        due("rests(20)", x, x.rests(20), 0);
        due("rests(21)", x.rests(21), -1);
        due("rests(-1)", x.rests(-1), -1);
        int least = 0;
        for (int v = 0; v <= 20; v++) {
            int many = x.rests(v);
            due("a ROW of two or none by " + v, x.count(10), many == 0 ? 0 : 2);
            least += many == 0 ? 1 : 0;
        }
        due("some v has no rest", least > 0 ? 1 : 0, 1);
    }

    private static void law() {
        PullThePlug x = three();
        due("law 0", x, Check.law(x, "0"), 0, 50, 50);
        due("the text is read", x.count(11), 0);
        x.pulls(2);
        long byRule = x.later(0, 12) + Check.rowOf(x, 1) + Check.rowOf(x, 2);
        due("all of it", x, Check.law(x, "l"), 31 - byRule, 31, byRule);
        due("none is the first rule", x, Check.law(x, ""), 0, byRule, byRule);
        Check.rule(x, "l");
        due("less THE RULE", x, Check.law(x, ""), byRule - 31, byRule, 31);
        due("x", Check.law(x, "x"), -10000);
        due("l+", Check.law(x, "l+"), -10002);
        due("1000", Check.law(x, "1000"), -10003);
        due("41 signs", Check.law(x, "1+1+1+1+1+1+1+1+1+1+1+1+1+1+1+1+1+1+1+999"), -10040);
        due("the text is gone", x.count(11), 0);
        due("THE RULE stays", Check.lakeOf(x, 2, 8), 20);
        due("nothing changed", x.count(1), 0);
    }

    /** R of the DRAWS, worked out with longs. */
    private static long next(long r) {
        return (r * 1103515245L + 12345L) & 0xFFFFFFFFL;
    }

    private static void years() {
        for (int seed = -3; seed < 40; seed++) {
            PullThePlug asked = three();
            PullThePlug done = three();
            long r = seed & 0xFFFFFFFFL;
            for (int i = 0; i < 20; i++) {
                r = next(r);
                long what = (r >> 16) % 4;
                if (what < 2) {
                    done.days(1);
                    continue;
                }
                r = next(r);
                int lake = (int) ((r >> 16) % 3);
                if (what == 3) {
                    r = next(r);
                    done.taps(lake, (int) ((r >> 16) % 10));
                } else if (done.stops(lake) < 0) {
                    done.pulls(lake);
                }
            }
            due("years by " + seed, asked, asked.years(seed, 20), done.count(4), done.count(2), done.count(3));
            due("a question", asked.count(1) + asked.count(5) + asked.count(9), 0);
        }
        PullThePlug dried = Check.made("0501a-;0100b-");
        dried.days(5);
        due("DRIED, once", dried.count(3), 1);
        due("no more in these", dried, dried.years(5, 1), 1, 0, 0);
        PullThePlug none = new PullThePlug();
        due("no LAKES", none, none.years(7, 60), 0, 0, 0);
        due("n 61", none.years(1, 61), -1);
        due("n 0", none.years(1, 0), -1);
    }

    private static void keepAndAgain() {
        PullThePlug x = three();
        due("nothing kept", x.again(0) ? 1 : 0, 0);
        due("keep(0)", x.keep(0) ? 1 : 0, 1);
        Check.year(x, "p0n3t01g0ds0p1n1");
        due("keep(1)", x.keep(1) ? 1 : 0, 1);
        int total = x.count(4);
        int spilt = x.count(2);
        due("again(0)", x.again(0) ? 1 : 0, 1);
        due("LEVEL", x.count(4), 62);
        due("DAY, SPILT, plugs, HAIR", x.count(1) + x.count(2) + x.count(5) + x.count(6), 0);
        due("TAP", Check.lakeOf(x, 0, 1), 2);
        due("KING", Check.lakeOf(x, 0, 3), 0);
        due("again(1)", x.again(1) ? 1 : 0, 1);
        due("LEVEL of 1", x.count(4), total);
        due("SPILT of 1", x.count(2), spilt);
        due("DAY of 1", x.count(1), 4);
        due("HAIR of 1", x.count(6), 4);
        due("TAP of 1", Check.lakeOf(x, 0, 1), 1);
        due("KING of 1", Check.lakeOf(x, 0, 3), 3);
        due("plugs of 1", x.count(5), 2);
        due("again(0) once more", x.again(0) ? 1 : 0, 1);
        due("keep(2)", x.keep(2) ? 1 : 0, 0);
        due("keep(-1)", x.keep(-1) ? 1 : 0, 0);
        due("again(2)", x.again(2) ? 1 : 0, 0);
        due("again(-1)", x.again(-1) ? 1 : 0, 0);
        Check.lakes(x, "");
        due("no LAKES came", x.again(0) ? 1 : 0, 1);
        Check.lakes(x, "x");
        due("none came still", x.again(0) ? 1 : 0, 1);
        Check.lakes(x, "1000a-");
        due("LAKES came", x.again(0) ? 1 : 0, 0);
        due("LAKES came, 1", x.again(1) ? 1 : 0, 0);
        due("kept anew", x.keep(0) ? 1 : 0, 1);
        due("again behind it", x.again(0) ? 1 : 0, 1);
    }

    private static void count() {
        PullThePlug x = three();
        x.pulls(1);
        x.pulls(2);
        x.days(3);
        x.sheet(2, 3, 0, 12);
        x.ring(0, 0, 0);
        x.sign(0);
        x.later(0, 0);
        int[] want = {3, 3, -1, 0, 32, 6, 6, 1, 1, 3, 3, 4, 6};
        for (int what = 0; what < want.length; what++) {
            if (what != 2) {
                due("count(" + what + ")", x.count(what), want[what]);
            }
        }
        due("count(13)", x.count(13), -1);
        due("count(-1)", x.count(-1), -1);
    }

    private static void row() {
        PullThePlug x = three();
        x.later(0, 0);
        due("row(2)", Check.rowOf(x, 2), 20);
        due("row(3)", Check.rowOf(x, 3), THROWS);
        due("row(-1)", Check.rowOf(x, -1), THROWS);
        due("row of the least int", Check.rowOf(x, Integer.MIN_VALUE), THROWS);
        x.order(0);
        due("an empty ROW", Check.rowOf(x, 0), THROWS);
        try {
            x.row(0);
            due("row(0) throws", 0, 1);
        } catch (NoSuchElementException e) {
            due("row(0) throws", 1, 1);
        }
        PullThePlug star = Check.made("1000a-;1000a0;1000a0;1000a0;1000a3;1000a4");
        star.duck(0, 0, 10);
        due("a long", Check.rowOf(star, 1) > 0 ? 1 : 0, 1);
    }

    private static void refusedCallsLeaveTheRow() {
        PullThePlug x = three();
        x.later(0, 0);
        x.dries(0);
        x.dries(9);
        x.meets(0, 2);
        x.lets(1, 5);
        x.just(7, 5);
        x.fills(4, 1);
        x.needs(1, 13, 1);
        x.days(61);
        x.rests(21);
        x.years(1, 0);
        Check.heirs(x, "");
        Check.law(x, "x");
        Check.year(x, "x");
        due("numbers", x.count(10), 3);
        due("row(1)", Check.rowOf(x, 1), 12);
        x.pulls(0);
        x.undo();
        x.keep(0);
        x.again(0);
        x.ring(0, 0, 0);
        x.washes();
        due("numbers still", x.count(10), 3);
    }
}
