/** The sentences of ==== 3 on rows, coming, landing and sharing, and of promises 15 to 23, that name an edge. */
public final class EdgesComingTest {
    private static final Edges E = new Edges("EdgesComingTest");
    private static final String C = "cliff rungs 1 things 0;";
    private static final String D = "cliff rungs 2 things 2;";
    private static final String SIX = "cliff rungs 8 things 6;";
    private static final String GIVES_SIX = " gives 0 gives 1 gives 2 gives 3 gives 4 gives 5;";
    private static final String BARS_SIX = " bars 0 bars 1 bars 2 bars 3 bars 4 bars 5;";
    private static final String HAS_SIX = " has 0 has 1 has 2 has 3 has 4 has 5;";
    /** Forty deeds to the top: four rests ahead of each climb. */
    private static final String SLOW = "cliff rungs 8 things 0;may : strength = 4;tires : 0;pilgrim at 0 strength 0;";

    public static void main(String[] args) {
        row();
        askedAnew();
        coming();
        soonest();
        way();
        rows();
        highest();
        most();
        loses();
        stands();
        landing();
        lands();
        sharing();
        shares();
        E.end();
    }

    // ---- coming

    private static void row() {
        E.of(15, "A ROW: DEEDS from now on, one behind the other, nothing else being done.");
        // Neither another wind nor a slip stands in a row.
        E.on(C + "may : wind > 0;slips 10;", "soonest(1, 0) = -1; rows(1, 0, 9) = 0; highest(0) = 0; most(1, 0) = -1",
            "stands() = 1",
            "wind(1) = 0; soonest(1, 0) = 1; rows(1, 0, 1) = 1; highest(0) = 1; most(1, 0) = 0; stands() = 10",
            "act(1) = 1; soonest(1, 0) = 0; rows(1, 0, 0) = 1; undo(2) = 0; soonest(1, 0) = -1; stands() = 1");
        E.on(D + "hole 1 bars 0;pilgrim at 0 strength 4 has 0;", "soonest(1, 1) = -1; highest(1) = 0; stands() = 16",
            "act(10) = 0; highest(1) = -1; stands() = 15",
            "rows(0, 1, 0) = 0; most(0, 0) = 0; loses(1) = 0; undo(1) = 0; highest(1) = 0; loses(1) = 1",
            "rows(0, 1, 0) = 1");
    }

    /** All that is asked of rows, of each rung and each set of up to three things. */
    private static String asked(HermitLadder x) {
        StringBuilder s = new StringBuilder().append(x.stands());
        int sets = 1 << x.count(1);
        for (int set = 0; set < sets; set++) {
            s.append(' ').append(x.highest(set));
            for (int rung = 0; rung <= x.count(0); rung++) {
                s.append(' ').append(x.soonest(rung, set)).append(' ').append(x.way(rung, set,
                    0)).append(' ').append(x.rows(rung, set, 2));
            }
        }
        for (int rung = 0; rung <= x.count(0); rung++) {
            s.append(' ').append(x.most(rung, 0)).append(' ').append(x.most(rung,
                1)).append(' ').append(x.loses(rung)).append(' ').append(x.withstands(rung));
        }
        return s.toString();
    }

    /** What was asked ahead of deeds by which less can be must not be answered behind them. */
    private static void askedAnew() {
        E.of(15, "DEEDS from now on,");
        String[] texts = {
            "cliff rungs 2 things 2;may : 1 = 2;pilgrim at 2 strength 0 has 0 has 1;",
            "cliff rungs 2 things 2;hole 1 bars 0;hole 0 bars 1;may : strength > 1;pilgrim at 2 strength 2 has 1;",
            "cliff rungs 1 things 3;may : things = 2;pilgrim at 0 strength 3 has 0 has 1 has 2;",
            "cliff rungs 2 things 2;hole 2 gives 1;may : strength < 2;tires : strength;pilgrim at 0 strength 0 has 0;",
            "cliff rungs 1 things 2;hole 1 gives 0;may : strength = 0;tires : 1;pilgrim at 0 strength 0 has 1;",
            "cliff rungs 2 things 2;hole 2 gives 1;may : strength < 2;tires : strength;pilgrim at 0 strength 1 has 0;",
            "cliff rungs 1 things 2;may : strength < 3;tires : strength;pilgrim at 0 strength 2 has 0 has 1;",
            "cliff rungs 1 things 2;may : things = 2 or strength < 4;tires : strength;"
                + "pilgrim at 0 strength 3 has 0 has 1;",
            "cliff rungs 3 things 1;may : strength < 2;tires : 0;pilgrim at 1 strength 1 has 0;",
            "cliff rungs 2 things 1;may : strength < 1;tires : strength;pilgrim at 0 strength 0 has 0;",
        };
        int[] deeds = {0, 1, 2, 10, 11, 12, 20, 21};
        for (String text : texts) {
            for (int deed : deeds) {
                HermitLadder one = E.on(text);
                if (one.why(deed) != 0) {
                    continue;
                }
                String ahead = asked(one);
                one.act(deed);
                String behind = asked(one);
                HermitLadder other = E.on(text, "act(" + deed + ")");
                E.due("asked ahead of and behind act(" + deed + ") of " + text, behind.equals(asked(other)) ? 1 : 0, 1);
                E.go(one, "undo(1) = 0");
                E.due("asked behind undo(1) of " + text, ahead.equals(asked(one)) ? 1 : 0, 1);
            }
        }
    }

    private static void comes(HermitLadder x, int rung, int set, int... deeds) {
        E.go(x, "soonest(" + rung + ", " + set + ") = " + deeds.length);
        for (int i = 0; i <= deeds.length; i++) {
            E.go(x, "way(" + rung + ", " + set + ", " + i + ") = " + (i < deeds.length ? deeds[i] : -1));
        }
    }

    private static void coming() {
        E.of(16, "COMING to a RUNG with a set of THINGS (all of these, may be more): the fewest DEEDS, of like ones the"
            + " first by DEEDS as numbers.");
        HermitLadder x = E.on(D + "pilgrim at 0 strength 4 has 0 has 1;");
        comes(x, 0, 0);
        comes(x, 0, 1);
        comes(x, 0, 3);
        comes(x, 1, 0, 1);
        comes(x, 2, 2, 1, 1);
        comes(x, 2, 3, 1, 1);
        HermitLadder y = E.on("cliff rungs 2 things 2;hole 0 gives 0 gives 1;hole 2 gives 0;pilgrim at 1 strength 4;");
        comes(y, 1, 1, 1, 20, 2);
        comes(y, 1, 2, 2, 21, 1);
        comes(y, 1, 3, 2, 20, 21, 1);
        comes(y, 0, 3, 2, 20, 21);
        HermitLadder z = E.on("cliff rungs 1 things 2;hole 0 gives 1;hole 1 bars 0;pilgrim at 0 strength 0 has 0;");
        // A rest, a fall and a take in any order: the least deeds first.
        comes(z, 1, 2, 0, 10, 21, 1);
        comes(z, 1, 0, 0, 10, 1);
        comes(z, 0, 2, 21);
        comes(z, 0, 3, 21);
        // The longer way is the only one: down for strength or things is no shorter.
        HermitLadder w = E.on("cliff rungs 3 things 1;hole 0 gives 0;hole 2 bars 0;hole 3 gives 0;"
            + "pilgrim at 1 strength 2;");
        comes(w, 3, 1, 1, 1, 20);
        comes(w, 2, 0, 1);
        comes(w, 1, 1, 2, 20, 1);
    }

    private static void soonest() {
        E.of(15, "COMING to a RUNG with a set: how many DEEDS.");
        E.on(SLOW, "soonest(8, 0) = 40; soonest(7, 0) = 35; soonest(0, 0) = 0; act(0) = 0; soonest(8, 0) = 39");
        E.on(SIX + "hole 8" + GIVES_SIX, "soonest(8, 0) = 12; soonest(8, 63) = 18; soonest(0, 63) = 26");
        E.of(15, "NONE: it can't be; -2; -3: others are in the set.");
        E.on(D + "hole 1 bars 0;pilgrim at 0 strength 4 has 0;", "soonest(1, 1) = -1; soonest(2, 1) = -1",
            "soonest(0, 2) = -1; soonest(0, 3) = -1; soonest(0, 1) = 0",
            "soonest(3, 0) = -2; soonest(-1, 0) = -2; soonest(MAX, 0) = -2; soonest(MIN, 0) = -2; soonest(3, 4) = -2",
            "soonest(-1, -1) = -2",
            "soonest(0, 4) = -3; soonest(0, 5) = -3; soonest(2, -1) = -3; soonest(0, MIN) = -3; soonest(0, MAX) = -3",
            "soonest(1, 64) = -3");
        E.on(SIX, "soonest(0, 63) = -1; soonest(0, 64) = -3; soonest(8, 32) = -1; soonest(9, 0) = -2");
        E.on(C + "may : 1 = 2;", "soonest(1, 0) = -1; soonest(0, 1) = -3; soonest(1, 1) = -3; soonest(2, 1) = -2");
    }

    private static void way() {
        E.of(16, "The i-th DEED of it.");
        HermitLadder x = E.on(SLOW, "way(8, 0, 0) = 0; way(8, 0, 3) = 0; way(8, 0, 4) = 1; way(8, 0, 5) = 0",
            "way(8, 0, 38) = 0; way(8, 0, 39) = 1");
        E.of(16, "NONE: not so many, it can't be; -2; -3: the set, i is below 0.");
        E.go(x, "way(8, 0, 40) = -1; way(8, 0, MAX) = -1; way(0, 0, 0) = -1; way(0, 0, -1) = -3; way(8, 0, -1) = -3",
            "way(8, 0, MIN) = -3",
            "way(9, 0, 0) = -2; way(-1, 0, 0) = -2; way(9, 1, -1) = -2; way(8, 1, 0) = -3; way(8, -1, 0) = -3",
            "way(8, 1, 99) = -3");
        E.on(D + "hole 1 bars 0;pilgrim at 0 strength 4 has 0;", "way(1, 1, 0) = -1; way(1, 1, -1) = -3",
            "way(0, 2, 0) = -1; way(0, 4, 0) = -3; way(0, 1, 0) = -1");
    }

    /** Rows on rungs that all give all, where one climbs always: seven deeds stay on a rung. */
    private static long reckoned(int top, int from, int to, int n) {
        long[] at = new long[top + 3];
        at[from + 1] = 1;
        for (int i = 0; i < n; i++) {
            long[] next = new long[top + 3];
            for (int r = 1; r <= top + 1; r++) {
                next[r] = 7 * at[r] + at[r - 1] + at[r + 1];
            }
            at = next;
        }
        return at[to + 1];
    }

    private static String givingAll() {
        StringBuilder all = new StringBuilder(SIX).append("may : 1 = 1;pilgrim at 4 strength 4;");
        for (int rung = 0; rung <= 8; rung++) {
            all.append("hole ").append(rung).append(GIVES_SIX);
        }
        return all.toString();
    }

    private static void rows() {
        E.of(17, "How many ROWS of just n DEEDS (0 to 10) there are behind which he is there with them.");
        E.on(C + "may : 1 = 1;", "rows(0, 0, 0) = 1; rows(1, 0, 0) = 0; rows(0, 0, 1) = 1; rows(1, 0, 1) = 1",
            "rows(0, 0, 2) = 2; rows(1, 0, 9) = 256",
            "rows(0, 0, 10) = 512; rows(1, 0, 10) = 512; count(6) = 0");
        // With a strength of 1 one climbs once, and again behind a rest.
        E.on(C + "pilgrim at 0 strength 1;", "rows(1, 0, 1) = 1; rows(1, 0, 3) = 3; rows(0, 0, 3) = 4");
        E.on("cliff rungs 1 things 1;hole 0 gives 0;may : 1 = 2;", "rows(0, 1, 0) = 0; rows(0, 1, 1) = 1",
            "rows(0, 0, 1) = 2; rows(0, 1, 10) = 512; rows(0, 0, 10) = 1024",
            "rows(1, 0, 10) = 0");
        HermitLadder x = E.on(givingAll());
        for (int rung = 0; rung <= 8; rung++) {
            E.go(x, "rows(" + rung + ", 0, 10) = " + reckoned(8, 4, rung, 10),
                "rows(" + rung + ", 0, 4) = " + reckoned(8, 4, rung, 4));
        }
        E.go(x, "rows(4, 63, 6) = 720; rows(4, 63, 5) = 0; rows(5, 63, 7) = 5040; rows(8, 63, 10) = 151200",
            "rows(8, 63, 9) = 0");
        E.of(17, "-2; -3: the set, n.");
        E.go(x, "rows(9, 0, 0) = -2; rows(-1, 0, 0) = -2; rows(9, 64, 11) = -2; rows(MAX, 0, 0) = -2",
            "rows(MIN, 0, 0) = -2",
            "rows(0, 64, 0) = -3; rows(0, -1, 0) = -3; rows(0, 0, 11) = -3; rows(0, 0, -1) = -3; rows(0, 0, MAX) = -3",
            "rows(0, 0, MIN) = -3; rows(4, 0, 0) = 1");
    }

    private static void highest() {
        E.of(18, "The highest RUNG to which he can come with a set.");
        E.on(SIX + "hole 5 bars 3;pilgrim at 4 strength 0 has 3 has 5;", "highest(0) = 8; highest(8) = 4",
            "highest(32) = 8; highest(40) = 4");
        E.on(D + "hole 0 gives 1;may : 1 = 2;pilgrim at 2 strength 0;", "highest(0) = 2; highest(2) = 0");
        E.on(C + "may : 1 = 2;", "highest(0) = 0");
        E.of(18, "NONE: he can't have them at all; -3.");
        E.on(D + "hole 0 gives 1;hole 1 gives 0 bars 1;hole 2 bars 0;", "highest(1) = 1; highest(2) = 0",
            "highest(3) = 0; highest(4) = -3; highest(-1) = -3; highest(MAX) = -3; highest(MIN) = -3");
        E.on(D + "hole 0 gives 1 bars 0;hole 1 gives 0 bars 1;", "highest(3) = -1; highest(1) = 2; highest(2) = 0",
            "highest(5) = -3; highest(8) = -3");
        E.on(C, "highest(0) = 1; highest(1) = -3");
        E.on(SIX, "highest(63) = -1; highest(1) = -1; highest(64) = -3");
    }

    private static void most() {
        E.of(19, "The most THINGS with which he can be on a RUNG, of like ones the least set, what 0: how many, 1: the"
            + " set, as bits.");
        E.on(SIX + "hole 3" + GIVES_SIX + "hole 5 bars 0 bars 5;hole 0 gives 0 gives 3;hole 1 bars 1;",
            "most(3, 0) = 6; most(3, 1) = 63; most(8, 0) = 4; most(8, 1) = 30; most(5, 1) = 30; most(1, 0) = 5",
            "most(1, 1) = 61; most(0, 0) = 5; most(0, 1) = 61");
        E.on("cliff rungs 1 things 3;hole 0 gives 0 bars 1 bars 2;hole 1 gives 1 gives 2 bars 0;"
            + "pilgrim at 0 strength 4;",
            "most(0, 0) = 1; most(0, 1) = 1; most(1, 0) = 2; most(1, 1) = 6");
        // Thing 0 or things 1 and 2, not all: more go ahead of the least; of like ones the least set.
        E.on("cliff rungs 1 things 2;may : things = 1;pilgrim at 0 strength 4 has 0 has 1;", "most(1, 0) = 1",
            "most(1, 1) = 1; most(0, 0) = 2; most(0, 1) = 3");
        E.on("cliff rungs 1 things 3;may : things = 2;pilgrim at 0 strength 4 has 0 has 1 has 2;", "most(1, 0) = 2",
            "most(1, 1) = 3");
        E.on("cliff rungs 1 things 3;may : things = 1;hole 0 gives 0 gives 1 gives 2;", "most(1, 0) = 1",
            "most(1, 1) = 1; most(0, 1) = 7");
        E.on("cliff rungs 1 things 4;may : things = 2;hole 0 gives 0 gives 1;pilgrim at 0 strength 4 has 2 has 3;",
            "most(1, 0) = 2; most(1, 1) = 3");
        E.on(D, "most(2, 0) = 0; most(2, 1) = 0");
        E.of(19, "NONE: he can't come there; -2: the RUNG, what.");
        E.on(D + "may : rung = 1;", "most(2, 0) = -1; most(2, 1) = -1; most(1, 0) = 0; most(1, 1) = 0",
            "most(3, 0) = -2; most(-1, 0) = -2; most(MAX, 0) = -2; most(MIN, 1) = -2",
            "most(2, 2) = -2; most(2, -1) = -2; most(0, MAX) = -2; most(0, MIN) = -2");
    }

    private static void loses() {
        E.of(20, "THINGS that he has now, and can't have on a RUNG by any ROW, as bits (0: he can't come there).");
        E.on(SIX + "hole 4" + BARS_SIX + "hole 6 gives 5;pilgrim at 3 strength 4" + HAS_SIX, "loses(3) = 0",
            "loses(0) = 0; loses(4) = 63; loses(5) = 31; loses(6) = 31; loses(8) = 31");
        // Each by itself may be had there, though not together.
        E.on(D + "may : things = 1;pilgrim at 0 strength 4 has 0 has 1;", "loses(1) = 0; loses(2) = 0");
        E.on(D + "hole 1 bars 1;pilgrim at 0 strength 4 has 0;", "loses(1) = 0");
        E.on(D + "hole 1 bars 1;may : 1 = 2;pilgrim at 0 strength 4 has 1;", "loses(1) = 0; loses(2) = 0");
        E.on(D + "hole 1 bars 1;may : rung = 1;pilgrim at 0 strength 4 has 1;", "loses(1) = 2; loses(2) = 0");
        E.on("cliff rungs 1 things 1;may : 1 = 2;pilgrim at 0 strength 4 has 0;", "loses(0) = 0; loses(1) = 0");
        E.of(20, "-2.");
        E.on(D, "loses(3) = -2; loses(-1) = -2; loses(MAX) = -2; loses(MIN) = -2; loses(2) = 0");
    }

    private static void stands() {
        E.of(21, "In how many ways RUNG, THINGS and STRENGTH can be by some ROW (as they are, too).");
        E.on(C + "may : 1 = 2;", "stands() = 1");
        E.on(C + "may : 1 = 2;pilgrim at 1 strength 4;", "stands() = 2");
        E.on(C + "may : 1 = 2;pilgrim at 0 strength 0;", "stands() = 5; act(0) = 0; stands() = 4; undo(1) = 0",
            "stands() = 5");
        E.on(SIX + "may : 1 = 2;pilgrim at 0 strength 4" + HAS_SIX, "stands() = 64; act(10) = 0; stands() = 32");
        E.on(givingAll(), "stands() = 2880");
        E.fresh("stands() = 10; act(1) = 1; stands() = 10");
    }

    // ---- what falls

    private static void landing() {
        E.of(22, "A THING LANDS, LET FALL from a RUNG, on the next RUNG below that neither bars nor gives it; on none,"
            + " if there is none.");
        HermitLadder x = E.on("cliff rungs 4 things 3;hole 3 bars 0;hole 2 gives 0;hole 4 bars 0 gives 1;"
            + "hole 0 bars 1 gives 2;hole 1 gives 1 bars 2;");
        E.go(x, "lands(4, 0) = 1; lands(3, 0) = 1; lands(2, 0) = 1; lands(1, 0) = 0; lands(0, 0) = -1");
        E.go(x, "lands(4, 1) = 3; lands(3, 1) = 2; lands(2, 1) = -1; lands(1, 1) = -1; lands(0, 1) = -1");
        E.go(x, "lands(4, 2) = 3; lands(3, 2) = 2; lands(2, 2) = -1; lands(1, 2) = -1");
    }

    private static void lands() {
        E.of(22, "Where a THING LANDS, LET FALL from a RUNG.");
        HermitLadder x = E.on(SIX + "hole 7 bars 5;hole 6 gives 5;", "lands(8, 5) = 5; lands(8, 0) = 7",
            "lands(1, 5) = 0; lands(7, 5) = 5; count(6) = 0");
        E.of(22, "NONE: on none; -2: the RUNG, the THING.");
        E.go(x, "lands(0, 0) = -1; lands(0, 5) = -1; lands(9, 0) = -2; lands(-1, 0) = -2; lands(MAX, 0) = -2",
            "lands(MIN, 0) = -2",
            "lands(8, 6) = -2; lands(8, -1) = -2; lands(0, 6) = -2; lands(8, MAX) = -2; lands(8, MIN) = -2",
            "lands(9, 6) = -2");
        E.on(C, "lands(1, 0) = -2; lands(0, 0) = -2");
        E.on(D + "hole 0 bars 0;", "lands(1, 0) = -1; lands(1, 1) = 0; lands(1, 2) = -2");
    }

    private static void shared(HermitLadder x, int rung, int set, int... rungs) {
        int landed = 0;
        for (int thing = 0; thing < rungs.length; thing++) {
            E.go(x, "shares(" + rung + ", " + set + ", " + (10 + thing) + ") = " + rungs[thing]);
            landed += rungs[thing] >= 0 ? 1 : 0;
        }
        E.go(x, "shares(" + rung + ", " + set + ", 0) = " + landed);
    }

    private static void sharing() {
        E.of(23, "SHARING a set of THINGS, LET FALL from a RUNG: each on a RUNG of its own below that neither bars nor"
            + " gives it:"
            + " as many as can be; of like ones the first (THING by THING its RUNG, least first, none behind all).");
        HermitLadder x = E.on(SIX);
        shared(x, 8, 63, 0, 1, 2, 3, 4, 5);
        shared(x, 6, 63, 0, 1, 2, 3, 4, 5);
        shared(x, 5, 63, 0, 1, 2, 3, 4, -1);
        shared(x, 1, 63, 0, -1, -1, -1, -1, -1);
        shared(x, 0, 63, -1, -1, -1, -1, -1, -1);
        shared(x, 8, 0, -1, -1, -1, -1, -1, -1);
        shared(x, 8, 32, -1, -1, -1, -1, -1, 0);
        shared(x, 2, 42, -1, 0, -1, 1, -1, -1);
        // As many as can be goes ahead of the least rung: thing 0 gives way to thing 2, and not to thing 1.
        HermitLadder y = E.on("cliff rungs 3 things 3;hole 1 bars 1 gives 2;hole 2 bars 1 gives 2;hole 3 bars 0;");
        shared(y, 3, 7, 1, 0, -1);
        shared(y, 3, 5, 1, -1, 0);
        shared(y, 3, 6, -1, 0, -1);
        shared(y, 3, 1, 0, -1, -1);
        shared(y, 1, 7, 0, -1, -1);
        shared(y, 1, 6, -1, 0, -1);
        // The rung from which they fall doesn't count, nor does what lies above.
        HermitLadder z = E.on("cliff rungs 3 things 2;hole 0 bars 0 bars 1;hole 1 gives 0 gives 1;");
        shared(z, 1, 3, -1, -1);
        shared(z, 2, 3, -1, -1);
        shared(z, 3, 3, 2, -1);
        shared(z, 3, 2, -1, 2);
        // One that can lie only on the rung from which it falls lies on none, and the other does.
        HermitLadder v = E.on("cliff rungs 2 things 2;hole 0 bars 0;");
        shared(v, 1, 3, -1, 0);
        shared(v, 2, 3, 1, 0);
        shared(v, 1, 3, -1, 0);
        // Whatever else was asked ahead.
        E.fresh("chance(1, 1, 0) = 1; shares(1, 0, 0) = 0; rows(1, 0, 3) = 4; shares(1, 0, 0) = 0",
            "chance(1, 8, 0) = 1; rows(1, 0, 3) = 4");
        HermitLadder u = E.on(givingAll().replace("hole 1" + GIVES_SIX, "").replace("hole 6" + GIVES_SIX,
            "hole 6 bars 0;"));
        for (int i = 0; i < 3; i++) {
            E.go(u, "chance(8, 8, 0) = 1; rows(8, 0, 4) = 1; shares(8, 63, 0) = 2");
            shared(u, 8, 63, 1, 6, -1, -1, -1, -1);
            shared(u, 8, 62, -1, 1, 6, -1, -1, -1);
            shared(u, 3, 48, -1, -1, -1, -1, 1, -1);
            shared(u, 1, 63, -1, -1, -1, -1, -1, -1);
        }
        E.on(SIX + "pilgrim at 5 strength 2 has 1 has 2 has 5;", "rows(5, 38, 0) = 1; shares(8, 0, 0) = 0",
            "shares(8, 63, 0) = 6");
        // Six on the six lowest, told backwards: thing k can lie on 5 - k alone, or above.
        HermitLadder w = E.on("cliff rungs 8 things 6;hole 0 bars 0 bars 1 bars 2 bars 3 bars 4;"
            + "hole 1 bars 0 bars 1 bars 2 bars 3 bars 5;"
            + "hole 2 bars 0 bars 1 bars 2 bars 4 bars 5;hole 3 bars 0 bars 1 bars 3 bars 4 bars 5;hole 4 bars 0 bars 2"
            + " bars 3 bars 4 bars 5;"
            + "hole 5 bars 1 bars 2 bars 3 bars 4 bars 5;hole 6" + BARS_SIX + "hole 7 bars 0 bars 1 bars 2 bars 3 bars"
            + " 4;");
        shared(w, 8, 63, 5, 4, 3, 2, 1, 0);
        shared(w, 3, 63, -1, -1, -1, 2, 1, 0);
    }

    private static void shares() {
        E.of(23, "SHARING a set from a RUNG, what 0: how many, 10 + k: the RUNG of THING k (NONE).");
        HermitLadder x = E.on(SIX, "shares(8, 63, 0) = 6; shares(8, 63, 10) = 0; shares(8, 63, 15) = 5",
            "shares(8, 31, 15) = -1; shares(0, 63, 0) = 0; shares(0, 63, 10) = -1");
        E.of(23, "-2: the RUNG, what (10 and a THING); -3: the set.");
        E.go(x, "shares(9, 0, 0) = -2; shares(-1, 0, 0) = -2; shares(MAX, 0, 0) = -2; shares(MIN, 0, 0) = -2",
            "shares(8, 0, 16) = -2; shares(8, 0, 9) = -2; shares(8, 0, 1) = -2",
            "shares(8, 0, -1) = -2; shares(8, 0, MAX) = -2; shares(8, 0, MIN) = -2; shares(8, 0, 20) = -2",
            "shares(9, 64, 0) = -2; shares(8, 64, 1) = -2",
            "shares(8, 64, 0) = -3; shares(8, -1, 0) = -3; shares(8, 64, 15) = -3; shares(0, MAX, 10) = -3",
            "shares(0, MIN, 10) = -3");
        E.on(C, "shares(1, 0, 0) = 0; shares(1, 0, 10) = -2; shares(1, 1, 0) = -3; shares(1, 1, 10) = -2");
        E.on(D, "shares(2, 3, 11) = 1; shares(2, 3, 12) = -2; shares(2, 4, 11) = -3; shares(2, 4, 12) = -2");
    }
}
