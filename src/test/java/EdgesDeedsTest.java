/** The sentences of ==== 2 and of promises 6 to 14 that name a boundary case: deeds and what they bring. */
public final class EdgesDeedsTest {
    private static final Edges E = new Edges("EdgesDeedsTest");
    private static final String C = "cliff rungs 1 things 0;";
    private static final String D = "cliff rungs 2 things 2;";
    private static final String SIX = "cliff rungs 8 things 6;";
    private static final String GIVES_SIX = " gives 0 gives 1 gives 2 gives 3 gives 4 gives 5;";
    private static final String BARS_SIX = " bars 0 bars 1 bars 2 bars 3 bars 4 bars 5;";
    private static final String HAS_SIX = " has 0 has 1 has 2 has 3 has 4 has 5;";

    public static void main(String[] args) {
        pilgrim();
        rest();
        climb();
        down();
        letFall();
        taken();
        whatLawsKnow();
        sumsAreKept();
        whyNot();
        whyAsked();
        byAsked();
        acts();
        winds();
        habit();
        undone();
        undoAsked();
        inATray();
        judged();
        performed();
        years();
        yearAsked();
        E.end();
    }

    // ---- single deeds

    private static void pilgrim() {
        E.of(40, "THE PILGRIM is on a RUNG, has THINGS, a STRENGTH 0 to 4.");
        E.on("cliff rungs 8 things 6;may : 1 = 1;tires : strength - 9;hole 8" + GIVES_SIX + "pilgrim at 7 strength 4;",
            "act(1) = 8; count(4) = 0; act(20) = 8; act(21) = 8; act(22) = 8; act(23) = 8; act(24) = 8; act(25) = 8",
            "count(2) = 8; count(3) = 63; habit(99) = 8; count(4) = 4");
        E.on("cliff rungs 8 things 6;may : 1 = 1;tires : 9;pilgrim at 0 strength 0;", "act(1) = 1; count(4) = 4",
            "act(1) = 2; count(4) = 4");
    }

    private static void rest() {
        E.of(8, "DEEDS: 0 to REST: the STRENGTH is 1 more, 4 at most.");
        E.on(C + "pilgrim at 1 strength 0;", "by(0, 2) = 1; act(0) = 1; count(4) = 1; act(0) = 1; count(4) = 2",
            "act(0) = 1; count(4) = 3",
            "by(0, 2) = 4; act(0) = 1; count(4) = 4; by(0, 2) = 4; act(0) = 1; count(4) = 4; count(6) = 5; why(0) = 0");
        // Nothing that is barred, and no law, keeps him from it.
        E.on("cliff rungs 1 things 1;hole 0 bars 0;may : 1 = 2;pilgrim at 0 strength 3 has 0;", "act(0) = 0",
            "count(4) = 4; count(3) = 1");
    }

    private static void climb() {
        E.of(8, "1 to CLIMB to the next RUNG, if it bars nothing that he has, and the law may holds (without one: if"
            + " the STRENGTH"
            + " is 1 at least): the STRENGTH is then what the law tires tells, 0 at least, 4 at most (without one: 1"
            + " less, 0 at least).");
        E.on(D + "hole 0 bars 0;hole 1 bars 1;hole 2 bars 0;pilgrim at 0 strength 4 has 0;",
            "act(1) = 1; count(3) = 1; count(4) = 3; act(1) = -13; act(10) = 1; act(1) = 2; count(4) = 2",
            "act(1) = -12");
        E.on(D + "hole 1 bars 0;pilgrim at 0 strength 4 has 0 has 1;", "act(1) = -13; act(11) = 0; act(1) = -13",
            "act(10) = 0; act(1) = 1");
        E.on(C + "pilgrim at 0 strength 0;", "act(1) = -14; act(0) = 0; act(1) = 1; count(4) = 0");
        E.on(C + "pilgrim at 0 strength 1;", "act(1) = 1; count(4) = 0");
        E.on(C + "may : strength = 0;pilgrim at 0 strength 0;", "act(1) = 1; count(4) = 0");
        E.on(C + "may : strength = 0;pilgrim at 0 strength 1;", "act(1) = -14");
        E.on(C + "may : 1 = 2;", "act(1) = -14; count(2) = 0; count(4) = 4");
        E.on(C + "tires : 0;", "act(1) = 1; count(4) = 0");
        E.on(C + "tires : 0 - 1;", "act(1) = 1; count(4) = 0");
        E.on(C + "tires : 0 - 999;", "act(1) = 1; count(4) = 0");
        E.on(C + "tires : 4;pilgrim at 0 strength 1;", "act(1) = 1; count(4) = 4");
        E.on(C + "tires : 5;pilgrim at 0 strength 1;", "act(1) = 1; count(4) = 4");
        E.on(C + "tires : 999;pilgrim at 0 strength 1;", "act(1) = 1; count(4) = 4");
        E.on(C + "tires : 4;pilgrim at 0 strength 0;", "act(1) = -14");
        E.on(C + "may : 1 = 1;pilgrim at 1 strength 4;", "act(1) = -12");
    }

    private static void down() {
        E.of(8, "2 to go DOWN to the RUNG below, if it bars nothing that he has.");
        E.on(D + "hole 2 bars 0;hole 1 bars 1;hole 0 bars 0;may : 1 = 2;pilgrim at 2 strength 0 has 0;",
            "act(2) = 1; count(4) = 0; count(3) = 1; act(2) = -13; act(10) = 1; act(2) = 0; count(4) = 0",
            "act(2) = -12");
        E.on(D + "hole 1 bars 1;pilgrim at 2 strength 3 has 0 has 1;", "act(2) = -13; act(11) = 2; act(2) = 1",
            "count(4) = 3");
    }

    private static void letFall() {
        E.of(8, "10 to 19: THING v - 10 that he has is LET FALL.");
        HermitLadder x = E.on(SIX + "hole 3" + BARS_SIX + "pilgrim at 3 strength 0" + HAS_SIX);
        for (int thing = 5; thing >= 0; thing--) {
            E.go(x, "by(" + (10 + thing) + ", 1) = " + ((1 << thing) - 1), "act(" + (10 + thing) + ") = 3",
                "count(3) = " + ((1 << thing) - 1), "act(" + (10 + thing) + ") = -12");
        }
        E.go(x, "act(16) = -11; act(17) = -11; act(18) = -11; act(19) = -11; count(4) = 0; count(6) = 6");
        E.on(D + "pilgrim at 0 strength 4 has 1;", "act(10) = -12; act(12) = -11; act(11) = 0; count(3) = 0",
            "act(11) = -12");
    }

    private static void taken() {
        E.of(8, "20 to 29: THING v - 20 that he hasn't, that the RUNG gives, and doesn't bar, is TAKEN.");
        HermitLadder x = E.on(SIX + "hole 3" + GIVES_SIX + "may : 1 = 2;pilgrim at 3 strength 0;");
        for (int thing = 0; thing < 6; thing++) {
            E.go(x, "by(" + (20 + thing) + ", 1) = " + ((2 << thing) - 1), "act(" + (20 + thing) + ") = 3",
                "count(3) = " + ((2 << thing) - 1), "act(" + (20 + thing) + ") = -12");
        }
        E.go(x, "act(26) = -11; act(27) = -11; act(28) = -11; act(29) = -11; count(4) = 0; count(6) = 6");
        E.on(D + "hole 0 gives 0 bars 0 bars 1;hole 1 gives 1;", "act(20) = -13; act(21) = -12; act(22) = -11");
        // What he has of that which is given and barred there, and what he let fall.
        E.on(D + "hole 0 gives 0 bars 0 gives 1;pilgrim at 0 strength 4 has 0;",
            "act(20) = -12; act(21) = 0; act(11) = 0; act(21) = 0; act(10) = 0; act(20) = -13");
        E.on(D + "pilgrim at 0 strength 4 has 0;", "act(10) = 0; act(20) = -12");
    }

    // ---- laws

    private static void whatLawsKnow() {
        E.of(7, "In both laws: rung, rough: of the RUNG to which he would CLIMB; strength: as it is ahead; things: how"
            + " many he has;"
            + " wind: the WIND; in may room: how many THINGS that RUNG doesn't bar.");
        String base = "cliff rungs 8 things 6;hole 0 rough 1 bars 0;hole 1 rough 9" + BARS_SIX
            + "hole 8 rough 3;hole 7 rough 5;";
        E.on(base + "tires : rung;", "by(1, 2) = 1");
        E.on(base + "may : rung = 8;pilgrim at 7 strength 4;", "why(1) = 0");
        E.on(base + "may : rung = 7;pilgrim at 7 strength 4;", "why(1) = 4");
        E.on(base + "may : rough = 9;", "why(1) = 0");
        E.on(base + "tires : rough;pilgrim at 7 strength 1;", "by(1, 2) = 3");
        E.on(base + "tires : strength;pilgrim at 0 strength 1;", "by(1, 2) = 1");
        E.on(base + "may : strength = 0;pilgrim at 0 strength 0;", "why(1) = 0");
        E.on(base + "may : things = 6;pilgrim at 7 strength 4" + HAS_SIX, "why(1) = 0; act(15) = 7; why(1) = 4");
        E.on(base + "tires : things;", "by(1, 2) = 0");
        E.on(base + "tires : things;pilgrim at 7 strength 4 has 5 has 3;", "by(1, 2) = 2; act(13) = 7; by(1, 2) = 1");
        E.on(base + "tires : wind - 6;wind 9;", "by(1, 2) = 3; wind(8) = 9; by(1, 2) = 2; wind(0) = 8; by(1, 2) = 0");
        E.on(base + "may : wind = 0;", "why(1) = 0; wind(1) = 0; why(1) = 4; undo(1) = 0; why(1) = 0");
        E.on(base + "may : room = 0;", "why(1) = 0");
        E.on(base + "may : room = 6;pilgrim at 1 strength 4;", "why(1) = 0");
        E.on(base + "may : room = 5;", "why(1) = 4");
        E.on(C + "may : room = 0;", "why(1) = 0");
        // Asked of one climb and then of another: other things, another rung, another strength.
        E.on("cliff rungs 3 things 2;tires : things;pilgrim at 0 strength 1 has 0 has 1;",
            "by(1, 2) = 2; act(10) = 0; by(1, 2) = 1; act(1) = 1; by(1, 2) = 1; act(11) = 1; by(1, 2) = 0; act(1) = 2",
            "why(1) = 4");
        E.on("cliff rungs 3 things 2;tires : rung;pilgrim at 0 strength 1 has 0 has 1;",
            "by(1, 2) = 1; act(1) = 1; by(1, 2) = 2; act(10) = 1; by(1, 2) = 2; act(1) = 2; by(1, 2) = 3; act(2) = 1",
            "by(1, 2) = 2; act(2) = 0; by(1, 2) = 1");
        E.on("cliff rungs 3 things 2;may : 1 = 1;tires : strength;pilgrim at 1 strength 0 has 0 has 1;",
            "by(1, 2) = 0; act(0) = 1; by(1, 2) = 1; act(0) = 1; by(1, 2) = 2; act(2) = 0; by(1, 2) = 2; act(0) = 0",
            "act(0) = 0; by(1, 2) = 4");
    }

    private static void kept(String sum, int strength) {
        E.on(C + "tires : " + sum + ";", "by(1, 2) = " + strength);
    }

    private static void sumsAreKept() {
        E.of(7, "Each + - * is kept from -1,000,000 to 1,000,000; if tells the one SUM, if the TRUTH holds, else the"
            + " other one.");
        String million = "500 * 500 * 4";
        String less = "(0 - " + million + ")";
        kept(million + " - 500 * 500 * 3 - 500 * 500 + 2", 2);
        kept(million + " + 1 - " + million + " + 2", 2);
        kept(million + " - 1 - " + million + " + 3", 2);
        kept(million + " + " + million + " - " + million + " + 2", 2);
        kept("500 * 500 * 5 - " + million + " + 2", 2);
        kept("999 * 999 * 999 * 999 * 999 - " + million + " + 2", 2);
        kept("(" + million + ") * (" + million + ") - " + million + " + 2", 2);
        kept(less + " + " + million + " + 2", 2);
        kept(less + " - 1 + " + million + " + 2", 2);
        kept(less + " + 1 + " + million + " + 1", 2);
        kept("(" + less + ") * 2 + " + million + " + 2", 2);
        kept("(" + less + ") * (" + million + ") + " + million + " + 2", 2);
        kept("(" + less + ") * (" + less + ") - " + million + " + 2", 2);
        kept("(0 - 2) * (0 - 1)", 2);
        kept("(0 - 2) * 1 + 3", 1);
        E.on(C + "may : " + million + " + 1 = " + million + ";", "why(1) = 0");
        E.on(C + "may : " + million + " + 1 > " + million + ";", "why(1) = 4");
        E.on(C + "may : " + million + " - 1 < " + million + ";", "why(1) = 0");
        E.on(C + "may : " + less + " - 1 = " + less + ";", "why(1) = 0");
        kept("if 1 = 1 then 2 else 3 end", 2);
        kept("if 1 = 2 then 2 else 3 end", 3);
        kept("if not 1 = 1 or 2 < 1 then 1 else if 1 > 0 then 3 else 2 end end", 3);
    }

    // ---- why not

    private static void whyNot() {
        E.of(6, "Why not: 1 no such DEED, WIND.");
        HermitLadder x = E.on(D, "why(3) = 1; why(9) = 1; why(12) = 1; why(19) = 1; why(22) = 1; why(29) = 1",
            "why(30) = 1; why(39) = 1");
        E.go(x, "why(40) = 1; why(-1) = 1; act(3) = -11; act(9) = -11; act(12) = -11; act(22) = -11; act(30) = -11",
            "act(-1) = -11");
        E.go(x, "wind(10) = -11; wind(-1) = -11");
        E.of(6, "2 there is no RUNG (CLIMB, DOWN), he hasn't that (LET FALL), he has it, it isn't given there"
            + " (TAKEN).");
        E.on(D + "hole 0 gives 1 bars 1;pilgrim at 0 strength 4 has 1;", "why(2) = 2; why(10) = 2; why(21) = 2",
            "why(20) = 2");
        E.on(D + "may : 1 = 2;pilgrim at 2 strength 4;", "why(1) = 2; why(2) = 0");
        E.on(D + "hole 1 bars 1;", "why(20) = 2; why(21) = 2");
        E.of(6, "3 something is barred.");
        E.on(D + "hole 0 gives 0 bars 0;hole 1 bars 1;hole 2 bars 1;may : 1 = 2;pilgrim at 0 strength 0 has 1;",
            "why(1) = 3; why(20) = 3");
        E.on(D + "hole 1 bars 1;pilgrim at 2 strength 0 has 1;", "why(2) = 3; why(11) = 0");
        E.of(6, "4 the law may.");
        E.on(D + "hole 1 bars 0;may : 1 = 2;pilgrim at 0 strength 4 has 1;", "why(1) = 4; why(0) = 0; why(11) = 0",
            "act(1) = -14");
        E.on(D + "pilgrim at 1 strength 0;", "why(1) = 4; why(2) = 0");
    }

    private static void whyAsked() {
        E.of(6, "Why a DEED (0 to 29) can't be (0: it can; 1 for other numbers, and THINGS there aren't).");
        E.on(SIX + "hole 3" + GIVES_SIX + "pilgrim at 3 strength 4 has 0 has 5;",
            "why(0) = 0; why(1) = 0; why(2) = 0; why(10) = 0; why(11) = 2; why(15) = 0; why(20) = 2; why(21) = 0",
            "why(25) = 2",
            "why(3) = 1; why(4) = 1; why(5) = 1; why(6) = 1; why(7) = 1; why(8) = 1; why(9) = 1; why(16) = 1",
            "why(17) = 1",
            "why(18) = 1; why(19) = 1; why(26) = 1; why(27) = 1; why(28) = 1; why(29) = 1; why(30) = 1; why(31) = 1",
            "why(39) = 1",
            "why(-1) = 1; why(-10) = 1; why(40) = 1; why(MAX) = 1; why(MIN) = 1; count(6) = 0; count(7) = 0");
        E.on("cliff rungs 1 things 3;", "why(12) = 2; why(13) = 1; why(22) = 2; why(23) = 1");
        E.fresh("why(0) = 0; why(10) = 1; why(20) = 1; why(15) = 1; why(25) = 1");
    }

    private static void byAsked() {
        E.of(7, "By a DEED, what 0: the RUNG, 1: THINGS, as bits, 2: the STRENGTH.");
        HermitLadder x = E.on(SIX + "hole 3" + GIVES_SIX + "pilgrim at 3 strength 2 has 0 has 5;",
            "by(0, 0) = 3; by(0, 1) = 33; by(0, 2) = 3; by(1, 0) = 4; by(1, 1) = 33; by(1, 2) = 1; by(2, 0) = 2",
            "by(2, 1) = 33; by(2, 2) = 2",
            "by(10, 0) = 3; by(10, 1) = 32; by(10, 2) = 2; by(15, 1) = 1; by(21, 0) = 3; by(21, 1) = 35",
            "by(21, 2) = 2; by(24, 1) = 49",
            "count(2) = 3; count(3) = 33; count(4) = 2; count(6) = 0; count(7) = 0");
        E.of(7, "-2: what; -5: it can't be (for whatever reason).");
        E.go(x, "by(0, 3) = -2; by(0, -1) = -2; by(1, MAX) = -2; by(1, MIN) = -2; by(99, 3) = -2; by(11, -1) = -2",
            "by(11, 0) = -5; by(20, 1) = -5; by(3, 2) = -5; by(16, 0) = -5; by(26, 0) = -5; by(30, 0) = -5",
            "by(39, 0) = -5",
            "by(-1, 0) = -5; by(MAX, 0) = -5; by(MIN, 0) = -5");
        E.on(D + "hole 1 bars 0;pilgrim at 0 strength 4 has 0;", "by(1, 0) = -5; by(2, 0) = -5");
        E.on(D + "may : 1 = 2;pilgrim at 2 strength 4;", "by(1, 0) = -5");
        E.on(D + "may : 1 = 2;", "by(1, 0) = -5");
    }

    private static void acts() {
        E.of(8, "A DEED (0 to 29): the RUNG then.");
        HermitLadder x = E.on(D + "hole 0 gives 1;hole 2 bars 1;pilgrim at 0 strength 2 has 0;",
            "act(0) = 0; act(21) = 0; act(10) = 0; act(1) = 1; act(2) = 0; act(1) = 1; count(6) = 6; count(2) = 1",
            "count(3) = 2; count(4) = 1");
        E.of(8, "-11 to -14.");
        E.go(x, "act(1) = -13; act(11) = 1; act(1) = 2; act(1) = -12; act(10) = -12; act(20) = -12; act(30) = -11",
            "act(39) = -11; act(-1) = -11",
            "act(3) = -11; act(12) = -11; act(22) = -11; act(MAX) = -11; act(MIN) = -11; count(6) = 8; count(7) = 8",
            "count(2) = 2");
        E.on(D + "pilgrim at 0 strength 0;", "act(1) = -14; act(2) = -12; count(6) = 0; count(7) = 0");
    }

    private static void winds() {
        E.of(9, "Another WIND (0 to 9): what it was.");
        HermitLadder x = E.on(C + "wind 3;", "wind(0) = 3; wind(9) = 0; count(5) = 9; wind(1) = 9; count(5) = 1",
            "count(6) = 0; count(7) = 3");
        E.of(9, "-11.");
        E.go(x, "wind(10) = -11; wind(-1) = -11; wind(MAX) = -11; wind(MIN) = -11; count(5) = 1; count(7) = 3");
        E.of(9, "Another WIND.");
        E.go(x, "undo(1) = 2; count(5) = 9; undo(1) = 1; count(5) = 0; undo(1) = 0; count(5) = 3; undo(1) = -3");
    }

    private static void habit() {
        E.of(10, "n times (1 to 99) BY HABIT: the RUNG then.");
        E.on("cliff rungs 8 things 0;may : strength = 4;tires : 0;", "habit(1) = 1; count(6) = 1; habit(4) = 1",
            "habit(1) = 2; count(6) = 6",
            "count(7) = 3; undo(1) = 2; count(2) = 1; count(4) = 4; habit(99) = 8; count(6) = 104; count(4) = 4",
            "undo(1) = 2; count(6) = 5");
        E.of(10, "-3.");
        E.on("cliff rungs 8 things 0;", "habit(0) = -3; habit(-1) = -3; habit(100) = -3; habit(MAX) = -3",
            "habit(MIN) = -3; count(6) = 0; count(7) = 0");
    }

    // ---- undoing

    private static void undone() {
        E.of(11, "Calls that did some can be UNDONE each as a whole, the latest first, 10 at most (eldest are"
            + " forgotten):"
            + " RUNG, THINGS, STRENGTH, WIND, how many DEEDS were done.");
        HermitLadder x = E.on("cliff rungs 8 things 2;hole 2 gives 1;pilgrim at 0 strength 4 has 0;");
        E.go(x, "fill(0, 1, 39, 21, 10, 99, 1); act(1) = 1; wind(5) = 0; perform(0) = 4; habit(3) = 4; year(1, 2) = 1",
            "count(2) = 5");
        E.go(x, "count(7) = 5; count(6) = 8; undo(1) = 4; count(2) = 4; count(6) = 7; undo(1) = 3; count(2) = 2",
            "count(3) = 2; count(5) = 9");
        E.go(x, "count(4) = 2; count(6) = 4; undo(1) = 2; count(2) = 1; count(3) = 1; count(4) = 3; count(5) = 5",
            "count(6) = 1");
        E.go(x, "undo(1) = 1; count(5) = 0; undo(1) = 0; count(2) = 0; count(4) = 4; count(6) = 0; undo(1) = -3");
        // Calls that did none leave nothing to be undone, nor does undoing.
        E.on(D, "fill(0, 2, 1); numbers(1, 0, 0); act(2) = -12; act(99) = -11; wind(10) = -11; habit(0) = -3",
            "perform(0) = 0; perform(1) = 0",
            "year(1, 0) = -3; count(7) = 0; undo(1) = -3; act(1) = 1; undo(1) = 0; undo(1) = -3; count(7) = 0",
            "count(2) = 0");
        E.on(C + "pilgrim at 1 strength 4;", "year(1, 2) = 0; count(7) = 0; undo(1) = -3");
        // Ten, and the eldest of eleven and of thirty are forgotten.
        HermitLadder y = E.on("cliff rungs 8 things 0;pilgrim at 0 strength 0;", "wind(1); wind(2); wind(3); wind(4)",
            "wind(5); wind(6); wind(7); wind(8)");
        E.go(y, "count(7) = 8; wind(9); count(7) = 9; act(0) = 0; count(7) = 10; act(0) = 0; count(7) = 10",
            "undo(10) = 0; count(5) = 1; count(4) = 0");
        HermitLadder z = E.on("cliff rungs 8 things 0;pilgrim at 0 strength 0;");
        for (int i = 0; i < 30; i++) {
            E.go(z, "wind(" + i % 10 + ") = " + (i == 0 ? 0 : (i - 1) % 10));
        }
        E.go(z, "count(7) = 10; undo(4) = 6; count(5) = 5; act(0) = 0; act(0) = 0; count(7) = 8; act(0) = 0",
            "act(0) = 0; act(0) = 0");
        E.go(z, "count(7) = 10; count(6) = 5; undo(5) = 5; count(6) = 0; count(5) = 5; count(4) = 0; undo(5) = 0",
            "count(5) = 0; undo(1) = -3");
        // Neither trays nor the tape nor images nor what was read come back.
        HermitLadder w = E.on(D, "act(1) = 1; fill(0, 0, 0); image(0) = 0; feed(0, 0, 0, 0, 0) = 20");
        E.go(w, "undo(1) = 0; count(8) = 20; judge(0, 0) = -1; restore(0) = 0; count(2) = 1; count(6) = 1");
    }

    private static void undoAsked() {
        E.of(11, "n calls (1 to 10) are UNDONE: how many still can be.");
        HermitLadder x = E.fresh("act(1) = 1; act(0) = 1; act(2) = 0; act(0) = 0; act(1) = 1; undo(1) = 4",
            "count(2) = 0; undo(3) = 1; count(2) = 1; undo(1) = 0");
        E.go(x, "count(2) = 0; count(6) = 0");
        for (int i = 0; i < 12; i++) {
            E.go(x, "act(0) = 0");
        }
        E.go(x, "undo(10) = 0; count(6) = 2");
        E.of(11, "-3: n, more than can be.");
        E.go(x, "undo(1) = -3; act(0) = 0; undo(2) = -3; undo(0) = -3; undo(-1) = -3; undo(MIN) = -3; undo(MAX) = -3",
            "undo(11) = -3; count(6) = 3");
        for (int i = 0; i < 12; i++) {
            E.go(x, "act(0) = 0");
        }
        E.go(x, "undo(11) = -3; undo(0) = -3; count(7) = 10; count(6) = 15; undo(10) = 0");
    }

    // ---- trays of deeds

    private static void inATray() {
        E.of(12, "In a TRAY also 30 to 39: WIND v - 30; others: 1.");
        HermitLadder x = E.on(D + "tires : wind;", "fill(0, 30, 39, 34, 1)", "judge(0, 0) = -1; judge(0, 1) = 0",
            "perform(0) = 4; count(5) = 4; count(4) = 4; undo(1) = 0");
        E.go(x, "fill(0, 39); perform(0) = 1; count(5) = 9; fill(0, 30); perform(0) = 1; count(5) = 0; fill(0, 33, 1)",
            "perform(0) = 2; count(4) = 3; undo(3) = 0");
        String[] others = {"3", "9", "12", "19", "22", "29", "40", "49", "99", "-1", "-30", "MIN", "MAX", "LMIN",
            "LMAX", "0x100000000", "0x100000001"};
        for (String v : others) {
            E.go(x, "fill(1, 0, " + v + "); judge(1, 0) = 1; judge(1, 1) = 1; perform(1) = 1; undo(1) = 0",
                "fill(1, " + v + "); perform(1) = 0");
        }
        E.go(E.fresh(), "numbers(0, 0, 1); write(0, 0, 257) = 1; judge(0, 2) = 1; write(0, 0, 256) = 0",
            "judge(0, 2) = 0; write(0, 0, 255) = -1; judge(0, 1) = 1");
    }

    private static void judged() {
        E.of(12, "DEEDS, judged as if done, what 0: the first place that can't be (NONE), 1: why (0), 2: the RUNG then,"
            + " 3: THINGS then, as bits.");
        HermitLadder x = E.on("cliff rungs 3 things 2;hole 0 gives 1;hole 2 bars 0;tires : strength - wind;"
            + "may : strength > wind;"
            + "pilgrim at 0 strength 4 has 0;wind 1;");
        E.go(x, "numbers(0, 0, 0); judge(0, 0) = -1; judge(0, 1) = 0; judge(0, 2) = 0; judge(0, 3) = 1");
        E.go(x, "numbers(0, 1, 40); judge(0, 0) = -1; judge(0, 1) = 0; judge(0, 2) = 0; write(0, 39, 2) = 2",
            "judge(0, 0) = 39; judge(0, 1) = 2");
        E.go(x, "write(0, 39, 1) = 1; judge(0, 0) = -1; judge(0, 2) = 1; write(0, 0, 21) = 21; judge(0, 3) = 3",
            "write(0, 1, 21) = 21; judge(0, 0) = 1; judge(0, 2) = 0");
        E.go(x, "fill(1, 2, 1); judge(1, 0) = 0; judge(1, 1) = 2; judge(1, 2) = 0; judge(1, 3) = 1; fill(1, 1, 1, 0)",
            "judge(1, 0) = 1; judge(1, 1) = 3; judge(1, 2) = 1");
        E.go(x, "fill(1, 34, 1); judge(1, 0) = 1; judge(1, 1) = 4; fill(1, 33, 1, 30, 10, 1); judge(1, 0) = -1",
            "judge(1, 2) = 2; judge(1, 3) = 0");
        E.go(x, "count(2) = 0; count(3) = 1; count(4) = 4; count(5) = 1; count(6) = 0; count(7) = 0; by(1, 2) = 3");
        E.of(12, "-2: the TRAY, what; -6.");
        E.go(x, "judge(4, 0) = -2; judge(-1, 0) = -2; judge(MAX, 0) = -2; judge(MIN, 0) = -2; judge(0, 4) = -2",
            "judge(0, -1) = -2; judge(0, MAX) = -2");
        E.go(x, "judge(0, MIN) = -2; judge(2, 0) = -6; judge(3, 3) = -6; judge(2, 4) = -2; judge(2, -1) = -2");
    }

    private static void performed() {
        E.of(13, "They are done, till one can't be: how many.");
        HermitLadder x = E.on("cliff rungs 3 things 1;pilgrim at 0 strength 3 has 0;");
        E.go(x, "fill(0, 1, 1, 20, 1); perform(0) = 2; count(2) = 2; count(4) = 1; count(6) = 2; count(7) = 1",
            "perform(0) = 1; count(2) = 3; count(6) = 3");
        E.go(x, "perform(0) = 0; count(7) = 2; undo(2) = 0; count(2) = 0; numbers(1, 0, 0); perform(1) = 0",
            "count(7) = 0");
        E.go(x, "numbers(1, 0, 40); perform(1) = 40; count(6) = 40; count(4) = 4; count(7) = 1; fill(1, 99, 0)",
            "perform(1) = 0; count(7) = 1");
        E.of(13, "-2; -6.");
        E.go(x, "perform(4) = -2; perform(-1) = -2; perform(MAX) = -2; perform(MIN) = -2; perform(2) = -6",
            "perform(3) = -6; count(7) = 1");
    }

    // ---- years

    /** A draw, reckoned without the wrap-around of ints. */
    private static long next(long x) {
        return 1103515245L * x + 12345 & 0xffffffffL;
    }

    private static int[] drawn(int seed, int times) {
        long x = seed & 0xffffffffL;
        int[] deeds = new int[times];
        for (int i = 0; i < times; i++) {
            x = next(x);
            int kind = (int) (x / 65536 % 8);
            if (kind >= 5) {
                x = next(x);
                deeds[i] = (kind == 5 ? 10 : 20) + (int) (x / 65536 % 6);
            } else {
                deeds[i] = kind == 0 ? 0 : kind < 4 ? 1 : 2;
            }
        }
        return deeds;
    }

    private static void yearAsDeeds(String text, int seed, int times) {
        HermitLadder one = E.on(text);
        int done = 0;
        for (int deed : drawn(seed, times)) {
            done += one.act(deed) >= 0 ? 1 : 0;
        }
        HermitLadder other = E.on(text);
        String call = "year(" + seed + ", " + times + ")";
        E.go(other, call + " = " + done);
        for (int what = 2; what <= 6; what++) {
            E.due(call + ", then count(" + what + ")", other.count(what), one.count(what));
        }
        E.go(other, "count(7) = " + (done > 0 ? 1 : 0));
    }

    private static void years() {
        E.of(14, "A YEAR by a SEED (x, an int; a DRAW: x becomes 1103515245 x + 12345, it is x >>> 16): so many times"
            + " (1 to 40):"
            + " DRAW modulo 8: 0 to REST; 1, 2, 3 to CLIMB; 4 DOWN; 5 THING DRAW modulo 6 is LET FALL;"
            + " 6, 7 THING DRAW modulo 6 is TAKEN; as in a TRAY, if it can be.");
        String all = SIX + "hole 4" + GIVES_SIX + "pilgrim at 4 strength 2 has 0 has 2 has 4;";
        String few = "cliff rungs 3 things 3;hole 0 gives 0 gives 1;hole 1 gives 2 bars 0;may : strength > 1;"
            + "pilgrim at 0 strength 3 has 1;";
        int[] kinds = new int[30];
        for (int seed = -40; seed < 60; seed++) {
            yearAsDeeds(all, seed * 40503 + 7, 1);
            yearAsDeeds(few, seed, 40);
            kinds[drawn(seed * 40503 + 7, 1)[0]]++;
        }
        int[] must = {0, 1, 2, 10, 11, 12, 13, 14, 15, 20, 21, 22, 23, 24, 25};
        for (int deed : must) {
            E.due("the test's own seeds draw " + deed, Math.min(1, kinds[deed]), 1);
        }
        int[] seeds = {0, 1, -1, Integer.MAX_VALUE, Integer.MIN_VALUE, 65535, 65536, -65536, 12345, 1103515245};
        for (int seed : seeds) {
            yearAsDeeds(all, seed, 1);
            yearAsDeeds(all, seed, 2);
            yearAsDeeds(all, seed, 40);
            yearAsDeeds(few, seed, 39);
        }
        // By the seed 1 the draws are 16838, 38526, 10113: thing 0 is taken, then a climb.
        E.on(SIX + "hole 0 gives 0;", "year(1, 1) = 1; count(3) = 1; undo(1) = 0; year(1, 2) = 2; count(2) = 1");
        E.on(SIX, "year(1, 1) = 0; count(7) = 0; year(1, 2) = 1; count(2) = 1; count(6) = 1");
    }

    private static void yearAsked() {
        E.of(14, "A YEAR: how many could be.");
        E.on(SIX, "year(1, 1) = 0; count(6) = 0; count(7) = 0; year(1, 2) = 1; count(6) = 1; count(7) = 1");
        E.of(14, "-3: how many times.");
        E.fresh("year(1, 0) = -3; year(1, -1) = -3; year(1, 41) = -3; year(1, MAX) = -3; year(0, MIN) = -3",
            "count(6) = 0; count(7) = 0");
    }
}
