/** Promises 1 to 7: a new object, texts and their faults, holes, single deeds looked at. */
public final class CliffTest {
    private static final Checks CHECKS = new Checks("CliffTest");

    public static void main(String[] args) {
        newObject();
        feeding();
        cliffs();
        grammar();
        faultKinds();
        depths();
        holes();
        laws();
        whyNot();
        byDeeds();
        CHECKS.end();
    }

    private static void due(String call, long got, long want) {
        CHECKS.due(call, got, want);
    }

    private static void newObject() {
        HermitLadder x = new HermitLadder();
        int[] wanted = {1, 0, 0, 0, 4, 0, 0, 0, 0, 0};
        for (int i = 0; i < wanted.length; i++) {
            due("new: count(" + i + ")", x.count(i), wanted[i]);
        }
        due("new: fault(0)", x.fault(0), 0);
        due("new: fault(1)", x.fault(1), HermitLadder.NONE);
        due("new: slips none", x.chance(1, 1, 0), 1);
        due("NONE", HermitLadder.NONE, -1);
    }

    private static void feeding() {
        HermitLadder x = new HermitLadder();
        for (int i = 1; i <= 45; i++) {
            due("feed " + i, x.feed(0x20202020, 0x20202020, 0x20202020, 0x20202020, 0x20202020), 20 * i);
        }
        due("feed beyond 900", x.feed(0, 0, 0, 0, 0), -5);
        due("the tape stays", x.count(8), 900);
        due("cliff(901)", x.cliff(901), -3);
        due("cliff(-1)", x.cliff(-1), -3);
        due("the tape stays", x.count(8), 900);
        due("blanks alone end too soon", x.cliff(900), -32);
        due("at the text's length", x.fault(1), 900);
        due("the tape is empty", x.count(8), 0);
        // The highest byte of an int comes first.
        x.feed(0x636c6966, 0x66207275, 0x6e677320, 0x32207468, 0x696e6773);
        x.feed(0x20333b20, 0x20202020, 0x20202020, 0x20202020, 0x20202020);
        due("cliff rungs 2 things 3;", x.cliff(23), 1);
        due("rungs", x.count(0), 2);
        due("things", x.count(1), 3);
    }

    private static void cliffs() {
        HermitLadder x = Checks.on("cliff rungs 2 things 2;wind 3;pilgrim at 1 strength 1 has 1;");
        due("lines", x.count(9), 3);
        due("wind", x.count(5), 3);
        x.act(0);
        due("a fault leaves all", Checks.tell(x, "cliff rungs 2 things 2;wind 3"), -32);
        due("the rung", x.count(2), 1);
        due("the deeds", x.count(6), 1);
        due("the lines", x.count(9), 3);
        due("undoable", x.count(7), 1);
        due("the tape", x.count(8), 0);
        due("the fault", x.fault(0), 2);
        due("its place", x.fault(1), 29);
        due("n beyond the tape is not read", x.cliff(1), -3);
        due("so the fault stays", x.fault(0), 2);
        due("fault(2)", x.fault(2), -1);
        due("fault(-1)", x.fault(-1), -1);
        due("the empty text", x.cliff(0), -32);
        due("its place", x.fault(1), 0);
        due("a good one", Checks.tell(x, "cliff rungs 1 things 0;"), 1);
        due("no fault", x.fault(0), 0);
        due("no place", x.fault(1), -1);
        due("no deeds", x.count(6), 0);
        due("nothing to undo", x.count(7), 0);
        due("told anew: the rung", x.count(2), 0);
        due("told anew: the strength", x.count(4), 4);
        due("told anew: the wind", x.count(5), 0);
        Checks.feed(x, "cliff rungs 3 things 0;wind 9;");
        due("the first bytes alone", x.cliff(23), 1);
        due("no wind", x.count(5), 0);
        due("all bytes are gone", x.count(8), 0);
    }

    private static void grammar() {
        HermitLadder x = new HermitLadder();
        good(x, "cliff rungs 8 things 6;", 1);
        good(x, "\n cliff\nrungs 008things 6;", 1);
        good(x, "cliff rungs 1 things 0;hole 1;hole 0;", 3);
        good(x, "cliff rungs 1 things 0;tires:1;may:1=1;", 3);
        good(x, "cliff rungs 1 things 0;may:not[not[1<2 or 2>1]and 3=3];", 2);
        good(x, "cliff rungs 1 things 0;tires:if 1=1 and 2=2 or 3=3 then(2)else 3*4-5+6 end;", 2);
        good(x, "cliff rungs 1 things 0;may:room*999>(rung+rough)-strength-things+wind;", 2);
        good(x, "cliff rungs 1 things 1;pilgrim at 1 strength 0 has 0 has 0;", 2);
        // Later ones strike, later holes add.
        good(x, "cliff rungs 2 things 3;pilgrim at 1 strength 1 has 0;pilgrim at 2 strength 3 has 2;"
            + "wind 1;wind 2;hole 1 bars 0 rough 4;hole 1 bars 1 gives 2 rough 5;hole 1 gives 0;", 8);
        due("the later pilgrim's rung", x.count(2), 2);
        due("the later pilgrim's things", x.count(3), 4);
        due("the later pilgrim's strength", x.count(4), 3);
        due("the later wind", x.count(5), 2);
        due("bars of both", x.hole(1, 0), 3);
        due("gives of both", x.hole(1, 1), 5);
        due("the later rough", x.hole(1, 2), 5);
        good(x, "cliff rungs 1 things 0;slips 10;slips 0;tires:0;tires:3;may:1=2;may:1=1;", 7);
        due("the later slips", x.chance(1, 1, 0), 1);
        due("the later laws", x.by(1, 2), 3);
    }

    private static void good(HermitLadder x, String text, int lines) {
        due("cliff: " + text, Checks.tell(x, text), lines);
        due("no fault: " + text, x.fault(0), 0);
    }

    private static void bad(String text, int kind, int place) {
        HermitLadder x = new HermitLadder();
        due("cliff: " + text, Checks.tell(x, text), -30 - kind);
        due("fault(0): " + text, x.fault(0), kind);
        due("fault(1): " + text, x.fault(1), place);
    }

    private static void faultKinds() {
        String c = "cliff rungs 2 things 2;";
        bad("#", 1, 0);
        bad("Cliff rungs 1 things 1;", 1, 0);
        bad("cliff\trungs 1 things 1;", 1, 5);
        bad("cliff rungs 0001 things 1;", 1, 12);
        bad("cliff rungs #", 1, 12);
        bad(c + "wind 1234567890123;", 1, 28);
        bad(c + "wind 1" + (char) 233 + ";", 1, 29);
        bad("wind 1;", 2, 0);
        bad("cliff rungs things 1;", 2, 12);
        bad("cliff rungs 1 things;", 2, 20);
        bad("cliff rung 1 things 1;", 2, 6);
        bad(c + "cliff rungs 2 things 2;", 2, 23);
        bad(c + ";", 2, 23);
        bad(c + "wind", 2, 27);
        bad(c + "wind  ", 2, 29);
        bad(c + "wind 1 2;", 2, 30);
        bad(c + "hole 1 bars 0 wind 1;", 2, 37);
        bad(c + "pilgrim at 1 has 1;", 2, 36);
        bad(c + "pilgrim;", 2, 30);
        bad(c + "wizard 1;", 2, 23);
        bad(c + "may : room > 1;tires : room;", 2, 46);
        bad(c + "tires : room;", 2, 31);
        bad(c + "tires : 1 = 1;", 2, 33);
        bad(c + "tires : 1 +;", 2, 34);
        bad(c + "tires : - 1;", 2, 31);
        bad(c + "tires : [1=1];", 2, 31);
        bad(c + "may : 1;", 2, 30);
        bad(c + "may : [1];", 2, 31);
        bad(c + "may : 1 = 1 = 1;", 2, 35);
        bad(c + "may : (1 = 1);", 2, 32);
        bad(c + "may : not;", 2, 32);
        bad(c + "may : if 1=1 then 1 else 2 = 1;", 2, 50);
        bad(c + "tires : rungs;", 2, 31);
        bad("cliff rungs 0 things 1;", 3, 12);
        bad("cliff rungs 9 things #", 3, 12);
        bad("cliff rungs 1 things 7", 3, 21);
        bad("cliff rungs 1 things 0;hole 0 bars 0;", 3, 35);
        bad(c + "hole 3;", 3, 28);
        bad(c + "hole 2 gives 2;", 3, 36);
        bad(c + "hole 2 rough 10;", 3, 36);
        bad(c + "pilgrim at 3 strength 9;", 3, 34);
        bad(c + "pilgrim at 2 strength 5;", 3, 45);
        bad(c + "pilgrim at 2 strength 4 has 2;", 3, 51);
        bad(c + "wind 10;", 3, 28);
        bad(c + "slips 11;", 3, 29);
    }

    private static void depths() {
        String c = "cliff rungs 1 things 0;";
        HermitLadder x = new HermitLadder();
        good(x, c + "tires:((((((1))))))+((((((2))))));", 2);
        bad(c + "tires:(((((((1)))))));", 4, 35);
        good(x, c + "may:not not not not not not 1=1;", 2);
        bad(c + "may:not not not not not not not 1=1;", 4, 51);
        good(x, c + "may:[[[[[[1=1]]]]]]and[[[[[[1=1]]]]]];", 2);
        bad(c + "may:[[[[[[[1=1]]]]]]];", 4, 33);
        good(x, c + "may:not[not[(if 1=1 then 1 else 2 end)=1]];", 2);
        bad(c + "may:not[not[(if (1)=1 then ((1)) else 2 end)=1]];", 4, 39);
        // What ends is no more around what comes behind it.
        good(x, c + "may:not not not not not not 1=1 and [[[[[[1=1]]]]]];", 2);
        good(x, c + "tires:if 1=1 then (((((1))))) else (((((2))))) end;", 2);
        bad(c + "tires:if 1=1 then 1 else ((((((2)))))) end;", 4, 53);
    }

    private static void holes() {
        HermitLadder x = Checks.on("cliff rungs 2 things 2;hole 2 bars 1 gives 0 rough 7;");
        due("hole(2, 0)", x.hole(2, 0), 2);
        due("hole(2, 1)", x.hole(2, 1), 1);
        due("hole(2, 2)", x.hole(2, 2), 7);
        due("hole(0, 2)", x.hole(0, 2), 0);
        due("hole(3, 0)", x.hole(3, 0), -2);
        due("hole(-1, 0)", x.hole(-1, 0), -2);
        due("hole(0, 3)", x.hole(0, 3), -2);
        due("hole(0, -1)", x.hole(0, -1), -2);
    }

    /** The strength behind a climb from rung 1 with thing 0, strength 3, wind 2, to a rough rung. */
    private static void law(String sum, int strength) {
        HermitLadder x = Checks.on("cliff rungs 3 things 4;hole 2 rough 5 bars 2 bars 3;"
            + "pilgrim at 1 strength 3 has 0;wind 2;tires:" + sum + ";");
        due("tires: " + sum, x.by(1, 2), strength);
    }

    private static void truth(String truth, boolean so) {
        HermitLadder x = Checks.on("cliff rungs 3 things 4;hole 2 rough 5 bars 2 bars 3;"
            + "pilgrim at 1 strength 3 has 0;wind 2;may:" + truth + ";");
        due("may: " + truth, x.why(1), so ? 0 : 4);
    }

    private static void laws() {
        law("rung", 2);
        law("rough - 2", 3);
        law("strength", 3);
        law("things", 1);
        law("wind", 2);
        law("0 - 1", 0);
        law("5", 4);
        law("10 - 3 - 4", 3);
        law("1 + 2 * 3 - 4", 3);
        law("(1 + 2) * 3 - 6", 3);
        law("if wind = 2 then 1 else 3 end", 1);
        law("if wind > 2 then 1 else 3 end", 3);
        law("if not wind < 2 and [1 = 2 or rung = 2] then 1 else 3 end", 1);
        // Kept from -1,000,000 to 1,000,000 at each step.
        law("999 * 999 * 999 - 999 * 999 - 999 * 2", 1);
        law("(0 - 999 * 999 * 2) + 999 * 999 + 999 * 2 + 3", 2);
        law("999 * 999 + 999 * 999 - 999 * 999 - 999 - 998", 2);
        truth("room = 2", true);
        truth("things = 1 and rough = 5 and rung = 2 and strength = 3 and wind = 2", true);
        truth("1 = 2 or 1 = 1 and 2 = 2", true);
        truth("1 = 1 or 1 = 1 and 1 = 2", true);
        truth("[1 = 1 or 1 = 1] and 1 = 2", false);
        truth("not 1 = 2 and 1 = 2", false);
        truth("not [1 = 2 and 1 = 2]", true);
        truth("2 < 2", false);
        truth("2 > 2", false);
        truth("2 > 1", true);
        HermitLadder x = Checks.on("cliff rungs 1 things 0;may:1=1;pilgrim at 0 strength 0;");
        due("without tires: 0 at least", x.by(1, 2), 0);
        HermitLadder y = Checks.on("cliff rungs 1 things 0;pilgrim at 0 strength 0;");
        due("without may: 1 at least", y.why(1), 4);
    }

    private static void whyNot() {
        HermitLadder x = Checks.on("cliff rungs 2 things 3;hole 0 bars 2;hole 1 gives 0 gives 1 gives 2 bars 1;"
            + "hole 2 bars 0;pilgrim at 1 strength 0 has 2;");
        int[] wanted = {0, 4, 3, 1, 1, 1, 1, 1, 1, 1,
            2, 2, 0, 1, 1, 1, 1, 1, 1, 1,
            0, 3, 2, 1, 1, 1, 1, 1, 1, 1, 1, 1};
        for (int deed = 0; deed < wanted.length; deed++) {
            due("why(" + deed + ")", x.why(deed), wanted[deed]);
        }
        due("why(-1)", x.why(-1), 1);
        due("why(39)", x.why(39), 1);
        due("why(least)", x.why(Integer.MIN_VALUE), 1);
        due("why(greatest)", x.why(Integer.MAX_VALUE), 1);
        x.act(20);
        due("something barred goes ahead of the law", x.why(1), 3);
        due("what he has can't be taken", x.why(20), 2);
        HermitLadder y = new HermitLadder();
        due("below the foot", y.why(2), 2);
        y.act(1);
        due("above the top", y.why(1), 2);
        due("what isn't given can't be taken, though it is barred too",
            Checks.on("cliff rungs 1 things 1;hole 0 bars 0;").why(20), 2);
    }

    private static void byDeeds() {
        HermitLadder x = Checks.on("cliff rungs 2 things 2;hole 1 gives 1;pilgrim at 1 strength 3 has 0;");
        due("by(0, 0)", x.by(0, 0), 1);
        due("by(0, 2)", x.by(0, 2), 4);
        due("by(1, 0)", x.by(1, 0), 2);
        due("by(1, 1)", x.by(1, 1), 1);
        due("by(1, 2)", x.by(1, 2), 2);
        due("by(2, 0)", x.by(2, 0), 0);
        due("by(2, 2)", x.by(2, 2), 3);
        due("by(10, 1)", x.by(10, 1), 0);
        due("by(21, 1)", x.by(21, 1), 3);
        due("by(21, 2)", x.by(21, 2), 3);
        due("by(11, 1)", x.by(11, 1), -5);
        due("by(99, 1)", x.by(99, 1), -5);
        due("by(99, 3)", x.by(99, 3), -2);
        due("by(0, -1)", x.by(0, -1), -2);
        due("nothing was done", x.count(6), 0);
        due("nothing was changed", x.count(2) * 100 + x.count(3) * 10 + x.count(4), 113);
    }
}
