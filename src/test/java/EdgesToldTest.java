/** The sentences of ==== 3 on habit, seen, tired, gusts and chance, and of promises 24 to 34, that name an edge. */
public final class EdgesToldTest {
    private static final Edges E = new Edges("EdgesToldTest");
    private static final String C = "cliff rungs 1 things 0;";
    private static final String D = "cliff rungs 2 things 2;";
    private static final String SIX = "cliff rungs 8 things 6;";
    private static final String GIVES_SIX = " gives 0 gives 1 gives 2 gives 3 gives 4 gives 5;";
    private static final String BARS_SIX = " bars 0 bars 1 bars 2 bars 3 bars 4 bars 5;";
    private static final String HAS_SIX = " has 0 has 1 has 2 has 3 has 4 has 5;";
    /** Four rests ahead of each climb, from the foot with no strength to the top: forty times. */
    private static final String SLOW = "may : strength = 4;tires : 0;pilgrim at 0 strength 0";
    /** Takes and rests alone: nothing is had at first, six things are given at the foot. */
    private static final String TAKES = "cliff rungs 1 things 6;may : 1 = 2;hole 0" + GIVES_SIX;

    public static void main(String[] args) {
        byHabit();
        lies();
        round();
        when();
        seenInATray();
        seen();
        seenBy();
        surely();
        tiredInATray();
        winds();
        attempt();
        gusts();
        withstands();
        chance();
        chanceAsked();
        best();
        E.end();
    }

    // ---- by habit

    private static void byHabit() {
        E.of(10, "BY HABIT he does each time: CLIMB, if he can; else the least THING that he has, and that the next"
            + " RUNG bars, is LET FALL; else REST.");
        E.on("cliff rungs 3 things 4;hole 0 bars 0;hole 1 bars 1 bars 3;"
            + "pilgrim at 0 strength 2 has 0 has 2 has 3 has 1;",
            "habit(1) = 0; count(3) = 13; habit(1) = 0; count(3) = 5; habit(1) = 1; count(4) = 1; habit(1) = 2",
            "count(4) = 0; habit(1) = 2; count(4) = 1",
            "habit(1) = 3; count(4) = 0; habit(5) = 3; count(4) = 4; count(3) = 5; count(6) = 11");
        // What is barred falls though the law would not hold; on the top nothing falls.
        E.on(D + "hole 1 bars 1;may : 1 = 2;pilgrim at 0 strength 3 has 0 has 1;", "habit(1) = 0; count(3) = 1",
            "count(4) = 3; habit(1) = 0; count(3) = 1; count(4) = 4");
        E.on(D + "hole 0 bars 0;hole 2 bars 1;pilgrim at 2 strength 4 has 0 has 1;", "habit(9) = 2; count(3) = 3",
            "count(4) = 4");
        E.on(SIX + "hole 8" + BARS_SIX + "pilgrim at 7 strength 1" + HAS_SIX, "habit(6) = 7; count(3) = 0",
            "habit(1) = 8; count(4) = 0");
    }

    private static void lies() {
        E.of(24, "The RUNG behind n times (0 to 99,999) BY HABIT.");
        HermitLadder x = E.on("cliff rungs 8 things 0;" + SLOW + ";", "lies(0) = 0; lies(1) = 0; lies(4) = 0",
            "lies(5) = 1; lies(9) = 1; lies(10) = 2; lies(39) = 7; lies(40) = 8");
        E.go(x, "lies(41) = 8; lies(99999) = 8; lies(99998) = 8; count(2) = 0; count(6) = 0; habit(40) = 8",
            "lies(0) = 8; lies(99999) = 8");
        E.on(D + "may : 1 = 2;pilgrim at 1 strength 0;", "lies(0) = 1; lies(99999) = 1");
        E.of(24, "-3.");
        E.go(x, "lies(100000) = -3; lies(-1) = -3; lies(MAX) = -3; lies(MIN) = -3");
    }

    private static void round() {
        E.of(25, "BY HABIT, what 0: behind how many times all is first as it comes round for ever, 1: behind how many"
            + " times it does.");
        HermitLadder x = E.on("cliff rungs 8 things 0;" + SLOW + ";", "round(0) = 44; round(1) = 1; habit(43) = 8",
            "round(0) = 1; habit(1) = 8; round(0) = 0; round(1) = 1");
        E.on("cliff rungs 8 things 6;hole 8" + BARS_SIX + SLOW + HAS_SIX, "round(0) = 50; round(1) = 1; lies(45) = 7",
            "lies(46) = 8");
        E.on(C + "may : 1 = 2;", "round(0) = 0; round(1) = 1");
        E.on(C + "may : 1 = 2;pilgrim at 0 strength 0;", "round(0) = 4; round(1) = 1");
        E.on(D + "may : 1 = 2;hole 1 bars 0;pilgrim at 0 strength 3 has 0;", "round(0) = 2; round(1) = 1");
        E.fresh("round(0) = 2; round(1) = 1; count(6) = 0");
        E.of(25, "-2: what.");
        E.go(x, "round(2) = -2; round(-1) = -2; round(MAX) = -2; round(MIN) = -2");
    }

    private static void when() {
        E.of(26, "Behind how many times BY HABIT he is on a RUNG first (0: he is).");
        HermitLadder x = E.on("cliff rungs 8 things 0;" + SLOW + ";", "when(0) = 0; when(1) = 5; when(7) = 35",
            "when(8) = 40; habit(6) = 1; when(1) = 0; when(2) = 4; when(8) = 34; count(6) = 6");
        // He is there when all comes round: from the first, and by the last climb.
        E.on(C + "may : 1 = 2;", "when(0) = 0; round(0) = 0");
        E.on(C + "tires : 4;", "when(0) = 0; when(1) = 1; round(0) = 1; lies(1) = 1");
        E.of(26, "NONE: never; -2.");
        E.go(x, "when(0) = -1; when(9) = -2; when(-1) = -2; when(MAX) = -2; when(MIN) = -2; habit(34) = 8",
            "when(8) = 0; when(7) = -1");
        E.on(D + "may : rung = 1;", "when(1) = 1; when(2) = -1; when(3) = -2");
        E.on(D + "pilgrim at 1 strength 0;", "when(0) = -1; when(1) = 0; when(2) = 2");
    }

    // ---- seen

    private static void seenInATray() {
        E.of(27, "SEEN in a TRAY (1 to 6 numbers: how many THINGS he had behind one DEED after another from now on;"
            + " NONE: not seen): ROWS by which it is so.");
        HermitLadder x = E.on(TAKES, "fill(0, 0); seen(0) = 1; fill(0, 1); seen(0) = 6; fill(0, 2); seen(0) = 0",
            "fill(0, -1); seen(0) = 7");
        E.go(x, "fill(0, 1, 2, 3, 4, 5, 6); seen(0) = 720; seenBy(0, 0) = 20; seenBy(0, 5) = 25; surely(0) = 63");
        E.go(x, "fill(0, -1, -1, -1, -1, -1, -1); seen(0) = 117649; surely(0) = 0; fill(0, -1, -1, -1, -1, -1, 6)",
            "seen(0) = 720; surely(0) = 63");
        E.go(x, "fill(0, 1, 0, 1, 0, 1, 0); seen(0) = 216; surely(0) = 0; seenBy(0, 0) = 20; seenBy(0, 1) = 10",
            "fill(0, 1, 1, 1, 1, 1, 1); seen(0) = 6");
        // From now on: behind a deed done it is another number, behind undoing the same again.
        E.go(x, "fill(0, 1); act(23) = 0; seen(0) = 1; seenBy(0, 0) = 0; surely(0) = 8; undo(1) = 0; seen(0) = 6",
            "surely(0) = 0");
        // Rows of all deeds, those that climb and go down too.
        E.on(D + "may : 1 = 1;pilgrim at 1 strength 4 has 1;", "fill(0, 1); seen(0) = 3; surely(0) = 2; fill(0, 1, 1)",
            "seen(0) = 7; fill(0, 0); seen(0) = 1; seenBy(0, 0) = 11; surely(0) = 0",
            "fill(0, -1); seen(0) = 4; surely(0) = 0");
    }

    private static void seen() {
        E.of(27, "SEEN: how many ROWS.");
        HermitLadder x = E.on(TAKES, "fill(3, 6); seen(3) = 0; fill(3, 0, 0, 0, 0, 0, 0); seen(3) = 1",
            "numbers(2, 0, 1); seen(2) = 1; write(2, 0, 255) = -1; seen(2) = 7; count(6) = 0");
        E.on(C, "fill(0, 6); seen(0) = 0; fill(0, 1); seen(0) = 0; fill(0, 0); seen(0) = 2");
        E.of(27, "-2: the TRAY; -6; -4: not 1 to 6 numbers; -3: one is not 0 to 6 nor NONE.");
        E.go(x, "seen(4) = -2; seen(-1) = -2; seen(MAX) = -2; seen(MIN) = -2; seen(0) = -6; seen(1) = -6",
            "numbers(0, 0, 0); seen(0) = -4; numbers(0, 0, 7); seen(0) = -4",
            "numbers(0, 3, 40); seen(0) = -4; write(0, 0, 7); seen(0) = -4; fill(0, 7); seen(0) = -3; fill(0, -2)",
            "seen(0) = -3; fill(0, 0, 0, 0, 0, 0, 7); seen(0) = -3",
            "fill(0, -2, 0, 0, 0, 0, 0); seen(0) = -3; fill(0, LMIN); seen(0) = -3; fill(0, LMAX); seen(0) = -3",
            "fill(0, 0x100000000); seen(0) = -3; fill(0, -4294967295); seen(0) = -3");
    }

    private static void seenBy() {
        E.of(28, "The i-th DEED of the first of these.");
        HermitLadder x = E.on(TAKES, "fill(0, -1, -1, 2); seenBy(0, 0) = 0; seenBy(0, 1) = 20; seenBy(0, 2) = 21",
            "fill(0, 1); seenBy(0, 0) = 20; fill(0, -1, 1, 0, -1, 2, 1)",
            "seenBy(0, 0) = 0; seenBy(0, 1) = 20; seenBy(0, 2) = 10; seenBy(0, 3) = 20; seenBy(0, 4) = 21",
            "seenBy(0, 5) = 10; count(6) = 0");
        E.on(D + "hole 1 gives 0;may : strength > 1;pilgrim at 0 strength 1;", "fill(0, -1, 0, 1); seenBy(0, 0) = 0",
            "seenBy(0, 1) = 1; seenBy(0, 2) = 20; fill(0, 0); seenBy(0, 0) = 0; fill(0, 0, 0); seenBy(0, 1) = 0");
        // The first deed may lead to no row: it must be one by which the rest is so, too.
        E.on("cliff rungs 1 things 1;hole 1 gives 0;", "fill(0, 0, 1); seenBy(0, 0) = 1; seenBy(0, 1) = 20",
            "fill(0, -1, -1, 1); seenBy(0, 0) = 0; seenBy(0, 1) = 1; seenBy(0, 2) = 20");
        E.of(28, "NONE: not so many, there are none; as seen(); -3: also i is below 0.");
        E.go(x, "seenBy(0, 6) = -1; seenBy(0, MAX) = -1; seenBy(0, -1) = -3; seenBy(0, MIN) = -3; fill(0, 1)",
            "seenBy(0, 1) = -1; fill(0, 6); seenBy(0, 0) = -1; seenBy(0, -1) = -3; seenBy(0, 9) = -1",
            "fill(0, 0, 2); seenBy(0, 0) = -1; seenBy(0, 1) = -1; seenBy(4, 0) = -2; seenBy(-1, -1) = -2",
            "seenBy(1, 0) = -6; seenBy(1, -1) = -6; numbers(0, 0, 0); seenBy(0, 0) = -4; seenBy(0, -1) = -4",
            "numbers(0, 0, 7); seenBy(0, 0) = -4; seenBy(0, -1) = -4; fill(0, 7); seenBy(0, 0) = -3; fill(0, 0, -2)",
            "seenBy(0, 0) = -3; fill(0, 0, 7); seenBy(0, 5) = -3");
    }

    private static void surely() {
        E.of(29, "THINGS that he had behind the last in all of these, as bits (0: there are none).");
        HermitLadder x = E.on(TAKES, "fill(0, 1); surely(0) = 0; fill(0, 6); surely(0) = 0; fill(0, 1, 2, 3, 4, 5, 5)",
            "surely(0) = 0; fill(0, 1, 2, 3, 4, 5, 6); surely(0) = 63");
        E.on(D + "hole 0 gives 1;pilgrim at 0 strength 4 has 0;", "fill(0, 1); surely(0) = 1; fill(0, 2)",
            "surely(0) = 3; fill(0, 2, 1); surely(0) = 0; fill(0, 0); surely(0) = 0; fill(0, 0, 1); surely(0) = 2");
        E.on(SIX + "hole 0 gives 0;pilgrim at 0 strength 4 has 5;", "fill(0, 2); surely(0) = 33; fill(0, 0, 1)",
            "surely(0) = 1; fill(0, 3); surely(0) = 0");
        E.of(29, "As seen().");
        E.go(x, "surely(4) = -2; surely(-1) = -2; surely(MAX) = -2; surely(MIN) = -2; surely(1) = -6",
            "numbers(0, 0, 0); surely(0) = -4; numbers(0, 0, 7); surely(0) = -4; write(0, 0, 7); surely(0) = -4",
            "fill(0, 7); surely(0) = -3; fill(0, -2); surely(0) = -3; fill(0, 0, 7); surely(0) = -3");
    }

    // ---- tired

    private static void tiredInATray() {
        E.of(30, "TIRED in a TRAY (1 to 8 numbers: STRENGTHS behind one DEED after another from now on, each a CLIMB,"
            + " or a REST if he can't): WINDS 0 to 9 by which it is so.");
        HermitLadder x = E.on("cliff rungs 8 things 1;tires : strength - wind;may : strength > 0;wind 7;");
        E.go(x, "fill(0, 4); winds(0) = 1; fill(0, 3); winds(0) = 2; fill(0, 1); winds(0) = 8; fill(0, 0)",
            "winds(0) = 1008; fill(0, 0, 1, 0, 1, 0, 1, 0, 1); winds(0) = 1008");
        E.go(x, "fill(0, 4, 4, 4, 4, 4, 4, 4, 4); winds(0) = 1; fill(0, 3, 2, 1, 0, 1, 0, 1, 0); winds(0) = 2",
            "fill(0, 2, 0, 1, 0, 1, 0, 1, 1); winds(0) = 0; count(5) = 7; by(1, 2) = 0");
        // From now on, whatever the wind now is.
        E.go(x, "act(1) = 1; fill(0, 1); winds(0) = 1023; fill(0, 1, 1); winds(0) = 1; fill(0, 1, 0); winds(0) = 1022",
            "undo(1) = 0; fill(0, 1, 0); winds(0) = 8");
        // He can't: something is barred, the law, the top.
        E.on(D + "hole 2 bars 1;tires : wind;pilgrim at 1 strength 2 has 1;", "fill(0, 3, 4, 4); winds(0) = 1023",
            "fill(0, 3, 3); winds(0) = 0");
        E.on(C + "tires : wind;may : wind < 9;pilgrim at 0 strength 2;", "fill(0, 3); winds(0) = 520",
            "fill(0, 3, 4, 4); winds(0) = 520; fill(0, 4, 4); winds(0) = 496; fill(0, 0, 1); winds(0) = 1");
    }

    private static void winds() {
        E.of(30, "TIRED: WINDS, as bits.");
        HermitLadder x = E.fresh("fill(0, 3); winds(0) = 1023; fill(0, 3, 4, 4, 4, 4, 4, 4, 4); winds(0) = 1023",
            "fill(0, 0); winds(0) = 0; fill(0, 4); winds(0) = 0; numbers(1, 0, 1); winds(1) = 0; count(6) = 0");
        E.on(C + "tires : if wind = 9 then 0 else if wind = 0 then 1 else 2 end end;", "fill(0, 0); winds(0) = 512",
            "fill(0, 1); winds(0) = 1; fill(0, 2); winds(0) = 510");
        E.of(30, "-2: the TRAY; -6; -4: not 1 to 8 numbers; -3: one is not 0 to 4.");
        E.go(x, "winds(4) = -2; winds(-1) = -2; winds(MAX) = -2; winds(MIN) = -2; winds(2) = -6; winds(3) = -6",
            "numbers(0, 0, 0); winds(0) = -4; numbers(0, 0, 9); winds(0) = -4",
            "numbers(0, 0, 40); winds(0) = -4; write(0, 0, 5); winds(0) = -4; fill(0, 5); winds(0) = -3; fill(0, -1)",
            "winds(0) = -3; fill(0, 3, 4, 4, 4, 4, 4, 4, 5); winds(0) = -3",
            "fill(0, LMIN); winds(0) = -3; fill(0, LMAX); winds(0) = -3; fill(0, 0x100000003); winds(0) = -3",
            "fill(0, -1, 4, 4, 4, 4, 4, 4, 4); winds(0) = -3");
    }

    private static void attempt() {
        E.of(31, "The DEED to do next: the greatest number of these WINDS by which RUNG and STRENGTH are the same then"
            + " (as now, if it can't be) is least, the first of 0, 1, 2.");
        String same = "tires : strength + 1;pilgrim at 0 strength 2;";
        // By all winds he is as strong behind the tray; a climb that some winds forbid tells them apart.
        E.on(C + "may : wind < 5;" + same, "fill(0, 3); winds(0) = 1023; attempt(0) = 1; count(5) = 0; count(6) = 0");
        E.on(C + "may : wind = 9;" + same, "fill(0, 3); winds(0) = 1023; attempt(0) = 1");
        E.on(C + "may : wind = 0;" + same, "fill(0, 3); attempt(0) = 1");
        // The laws are then asked by the wind that there is, as before.
        E.on(C + "may : wind < 5;" + same, "fill(0, 3); attempt(0) = 1; why(1) = 0; winds(0) = 1023; why(1) = 0",
            "wind(9) = 0; attempt(0) = 1; why(1) = 4; soonest(1, 0) = -1");
        // A wind that is not among these is not counted, wherever he would be by it.
        E.on(C + "may : wind < 2;tires : if wind = 0 then 1 else 3 end;pilgrim at 0 strength 0;", "fill(0, 1)",
            "winds(0) = 1021; attempt(0) = 1");
        E.on("cliff rungs 1 things 1;may : wind < 2;tires : if wind = 0 then 1 else 3 end;"
            + "pilgrim at 0 strength 0 has 0;", "fill(0, 1); winds(0) = 1021; attempt(0) = 1");
        // Where no wind forbids it, or each does (all is then as now), it tells none apart: the first.
        E.on(C + "may : 1 = 1;" + same, "fill(0, 3); winds(0) = 1023; attempt(0) = 0");
        E.on(C + "may : 1 = 2;" + same, "fill(0, 3); winds(0) = 1023; attempt(0) = 0");
        E.on(D + "may : 1 = 2;pilgrim at 1 strength 4;", "fill(0, 4); winds(0) = 1023; attempt(0) = 0");
        E.on(C + "pilgrim at 1 strength 4;", "fill(0, 4); winds(0) = 1023; attempt(0) = 0");
        // One wind alone, and winds that are not among those by which it is so.
        E.on(C + "tires : wind;", "fill(0, 0); winds(0) = 1; attempt(0) = 0; fill(0, 4); winds(0) = 1008",
            "attempt(0) = 0");
        E.on(C + "may : wind < 4 or wind > 8;tires : if wind < 4 then 0 else strength + 1 end;pilgrim at 0 strength 2;",
            "fill(0, 3); winds(0) = 1008; attempt(0) = 1");
        E.on(C + "may : wind < 4;tires : if wind < 4 then 0 else strength + 1 end;pilgrim at 0 strength 2;",
            "fill(0, 3); winds(0) = 1008; attempt(0) = 0; fill(0, 0); winds(0) = 15; attempt(0) = 0");
        E.of(31, "NONE: there are none; as winds().");
        E.fresh("fill(0, 0); winds(0) = 0; attempt(0) = -1; attempt(4) = -2; attempt(-1) = -2; attempt(MAX) = -2",
            "attempt(MIN) = -2; attempt(1) = -6; numbers(0, 0, 0); attempt(0) = -4",
            "numbers(0, 0, 9); attempt(0) = -4; fill(0, 5); attempt(0) = -3; fill(0, -1); attempt(0) = -3",
            "fill(0, 3, 4, 4, 4, 4, 4, 4, 4); attempt(0) = 0; fill(0, 0, 5); attempt(0) = -3");
    }

    // ---- gusts, slips

    private static void gusts() {
        E.of(32, "GUSTS: behind a CLIMB there may be a gust, once: the STRENGTH is 1 less (0 at least).");
        // Behind each climb he is at 0, or at 4 and then at 3: a rest brings him back.
        E.on("cliff rungs 8 things 0;" + SLOW + ";", "withstands(8) = 9; withstands(0) = 9");
        E.on("cliff rungs 8 things 0;may : strength = 4;tires : 4;", "withstands(8) = 9");
        E.of(32, "WITHSTANDING n GUSTS to a RUNG: he can do so that he comes there, though there is a gust behind any"
            + " of his CLIMBS,"
            + " as often as n in all, whenever (knowing all that went before).");
        E.on("cliff rungs 3 things 0;may : strength < 2 or rung = 3;tires : 1;pilgrim at 0 strength 1;",
            "withstands(3) = 9; act(0) = 0; withstands(1) = -1; withstands(3) = -1; withstands(0) = 9");
        E.on("cliff rungs 2 things 1;hole 2 bars 0;hole 1 gives 0;may : things > 0 or rung = 2;"
            + "pilgrim at 0 strength 0 has 0;", "withstands(2) = 9; act(10) = 0; withstands(2) = -1");
    }

    private static void withstands() {
        E.of(32, "The most GUSTS (0 to 9) he WITHSTANDS to a RUNG.");
        HermitLadder x = E.on(D + "may : rung = 1;pilgrim at 0 strength 0;", "withstands(0) = 9; withstands(1) = 9",
            "count(6) = 0");
        E.on(D + "may : 1 = 2;pilgrim at 2 strength 0;", "withstands(2) = 9; withstands(1) = 9; withstands(0) = 9");
        E.of(32, "NONE: not even none; -2.");
        E.go(x, "withstands(2) = -1; withstands(3) = -2; withstands(-1) = -2; withstands(MAX) = -2",
            "withstands(MIN) = -2");
        E.on(D + "hole 1 bars 0;may : things = 1;pilgrim at 0 strength 4 has 0;", "withstands(1) = -1",
            "withstands(0) = 9");
    }

    private static void likely(HermitLadder x, int rung, int n, int above, int below) {
        E.go(x, "chance(" + rung + ", " + n + ", 0) = " + above, "chance(" + rung + ", " + n + ", 1) = " + below);
    }

    private static void chance() {
        E.of(33, "CHANCE: each CLIMB he SLIPS as likely as told, by itself: he stays on the RUNG where he was, all else"
            + " is as if he had CLIMBED;"
            + " he does so that it is likeliest that he is on a RUNG behind n DEEDS at most (0 to 8; he may stop"
            + " there).");
        HermitLadder x = E.on("cliff rungs 2 things 0;slips 3;tires : 4;");
        likely(x, 0, 0, 1, 1);
        likely(x, 0, 8, 1, 1);
        likely(x, 1, 0, 0, 1);
        likely(x, 1, 1, 7, 10);
        likely(x, 1, 2, 91, 100);
        likely(x, 1, 8, 99993439, 100000000);
        likely(x, 2, 1, 0, 1);
        likely(x, 2, 2, 49, 100);
        likely(x, 2, 3, 98, 125);
        // Of eight climbs two at least: 1 - 0.3^8 - 8 * 0.7 * 0.3^7.
        likely(x, 2, 8, 99870967, 100000000);
        // He tires by a slip as by a climb, and may have to rest; or he is the stronger for it.
        HermitLadder y = E.on(C + "slips 5;pilgrim at 0 strength 1;");
        likely(y, 1, 1, 1, 2);
        likely(y, 1, 2, 1, 2);
        likely(y, 1, 3, 3, 4);
        likely(y, 1, 8, 15, 16);
        HermitLadder z = E.on("cliff rungs 2 things 0;slips 5;may : strength > rung;tires : 4;"
            + "pilgrim at 0 strength 2;");
        likely(z, 2, 2, 1, 4);
        likely(z, 2, 3, 1, 2);
        // Only climbs slip; to go down, to rest, to let fall is sure.
        HermitLadder w = E.on("cliff rungs 3 things 1;slips 9;hole 1 bars 0;pilgrim at 2 strength 0 has 0;");
        likely(w, 1, 1, 0, 1);
        likely(w, 1, 2, 1, 1);
        likely(w, 0, 3, 1, 1);
        likely(w, 3, 1, 0, 1);
        likely(w, 3, 2, 1, 10);
        // He always slips, and never does.
        likely(E.on(C + "slips 10;"), 1, 8, 0, 1);
        likely(E.on(C + "slips 0;"), 1, 8, 1, 1);
        likely(E.on(C + "slips 0;"), 1, 1, 1, 1);
        // The law is asked by the strength that a slip left; deeds that are done never slip.
        HermitLadder v = E.on(C + "slips 5;may : not strength = 3;");
        likely(v, 1, 1, 1, 2);
        likely(v, 1, 2, 1, 2);
        likely(v, 1, 3, 3, 4);
        E.go(E.on(C + "slips 10;"), "act(1) = 1; act(2) = 0; habit(1) = 1; count(4) = 2");
    }

    private static void chanceAsked() {
        E.of(33, "CHANCE, what 0: the number above, 1: below, in lowest terms.");
        HermitLadder x = E.on(C + "slips 5;tires : 4;");
        likely(x, 1, 1, 1, 2);
        likely(x, 1, 8, 255, 256);
        likely(x, 0, 8, 1, 1);
        likely(E.on(C + "slips 2;"), 1, 1, 4, 5);
        likely(E.on(C + "slips 4;"), 1, 2, 21, 25);
        likely(E.on(C + "slips 9;tires : 4;"), 1, 8, 56953279, 100000000);
        likely(E.on(C + "may : 1 = 2;"), 1, 8, 0, 1);
        E.of(33, "-2: the RUNG, what; -3: n.");
        E.go(x, "chance(2, 0, 0) = -2; chance(-1, 0, 0) = -2; chance(MAX, 0, 0) = -2; chance(MIN, 0, 0) = -2",
            "chance(0, 0, 2) = -2; chance(0, 0, -1) = -2; chance(0, 0, MAX) = -2; chance(0, 0, MIN) = -2",
            "chance(1, 9, 0) = -3; chance(1, -1, 0) = -3; chance(0, 9, 1) = -3; chance(0, MAX, 0) = -3",
            "chance(0, MIN, 1) = -3; chance(2, 9, 0) = -2; chance(0, 9, 2) = -2; count(6) = 0");
    }

    private static void best() {
        E.of(34, "The first DEED by which it is likeliest.");
        HermitLadder x = E.on("cliff rungs 2 things 2;slips 5;hole 1 bars 0 bars 1;"
            + "pilgrim at 0 strength 4 has 0 has 1;");
        E.go(x, "best(1, 3) = 10; best(1, 8) = 10; act(10) = 0; best(1, 2) = 11; best(1, 3) = 11; act(11) = 0",
            "best(1, 1) = 1; best(1, 2) = 1; best(2, 2) = 1; best(2, 8) = 1");
        E.on(C, "best(1, 1) = 1; best(1, 2) = 0; best(1, 8) = 0");
        E.on(C + "pilgrim at 1 strength 0;", "best(0, 1) = 2; best(0, 2) = 0");
        E.on("cliff rungs 1 things 1;hole 0 gives 0;may : things = 1;", "best(1, 2) = 20; best(1, 1) = -1",
            "best(1, 3) = 0");
        E.on(C + "slips 5;may : strength > 1;pilgrim at 0 strength 1;", "best(1, 1) = -1; best(1, 2) = 0",
            "best(1, 4) = 0; act(0) = 0; best(1, 1) = 1; best(1, 2) = 0; best(1, 3) = 0");
        E.of(34, "NONE: he is there, it is never so; -2; -3.");
        E.go(x, "best(0, 0) = -1; best(0, 8) = -1; best(1, 0) = -1; best(2, 1) = -1; best(3, 0) = -2",
            "best(-1, 0) = -2; best(MAX, 0) = -2; best(MIN, 0) = -2; best(3, 9) = -2",
            "best(0, 9) = -3; best(0, -1) = -3; best(1, 9) = -3; best(1, MAX) = -3; best(1, MIN) = -3");
        E.on(C + "slips 10;", "best(1, 8) = -1; best(0, 8) = -1");
        E.on(C + "may : 1 = 2;", "best(1, 8) = -1");
    }
}
