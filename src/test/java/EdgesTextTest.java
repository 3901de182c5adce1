/** The sentences of ==== 1 and of promises 1 to 5 that name a boundary case: texts and their faults. */
public final class EdgesTextTest {
    private static final Edges E = new Edges("EdgesTextTest");
    /** The shortest cliff; what stands behind it begins at place 23. */
    private static final String C = "cliff rungs 1 things 0;";
    /** Two rungs and two things, as long. */
    private static final String D = "cliff rungs 2 things 2;";
    /** Every kind of line, flag, law and token, with blanks between all tokens. */
    private static final String ALL = "cliff rungs 3 things 4 ; hole 0 ; hole 1 bars 0 gives 1 rough 2 ; "
        + "pilgrim at 1 strength 3 ; "
        + "pilgrim at 0 strength 2 has 0 has 3 ; wind 4 ; slips 5 ; "
        + "tires : rung + rough - strength * things + ( wind ) - if 1 = 2 then 3 else 4 end ; "
        + "may : not room > 1 and [ 2 < 3 or 1 = 1 ] or ( 5 ) > if not 1 = 1 then 0 else 1 end ;";

    public static void main(String[] args) {
        newObject();
        tape();
        tapeFull();
        firstBytes();
        beginsAnew();
        nothingOfEarlierTexts();
        allStays();
        notSoMany();
        faultAsked();
        holeAsked();
        longTexts();
        lineForms();
        sums();
        truths();
        depths();
        toldOfCliffAndHoles();
        toldOfPilgrimWindSlips();
        laterOnesStrike();
        tokens();
        faultsInOrder();
        cannotStand();
        outOfBounds();
        seventh();
        E.end();
    }

    private static String repeated(String s, int times) {
        return s.repeat(times);
    }

    // ---- promises 1 to 5

    private static void newObject() {
        E.of(1, "1 RUNG above the foot, no THINGS.");
        E.fresh("count(0) = 1; count(1) = 0; hole(0, 0) = 0; hole(1, 2) = 0; hole(2, 0) = -2",
            "act(1) = 1; act(1) = -12; why(10) = 1; why(20) = 1; soonest(0, 1) = -3; lands(1, 0) = -2");
        E.of(1, "(without one: 1 RUNG, no THINGS, STRENGTH 4, no WIND, no SLIPS)");
        E.fresh("count(0) = 1; count(1) = 0; count(2) = 0; count(3) = 0; count(4) = 4; count(5) = 0",
            "count(6) = 0; count(7) = 0; count(8) = 0; count(9) = 0; chance(1, 1, 0) = 1; chance(1, 1, 1) = 1",
            "wind(0) = 0; by(1, 2) = 3; hole(1, 0) = 0; hole(1, 1) = 0; hole(1, 2) = 0; hole(0, 1) = 0");
    }

    private static void tape() {
        E.of(2, "Twenty bytes come behind those on THE TAPE, the highest of each int first: how many it has.");
        E.fresh("feed(0x636c6966, 0x66207275, 0x6e677320, 0x32207468, 0x696e6773) = 20; count(8) = 20",
            "feed(0x20333b20, 0x20202020, 0x20202020, 0x20202020, 0x20202020) = 40; count(8) = 40",
            "cliff(23) = 1; count(0) = 2; count(1) = 3");
        E.fresh("feed(-1, 0, 0, 0, 0) = 20; cliff(20) = -31; fault(1) = 0");
        E.fresh("feed(MIN, MAX, MIN, MAX, 0) = 20; cliff(20) = -31; fault(1) = 0");
        for (int place = 0; place < 20; place++) {
            // Blanks but for one byte, the highest bit of which is set.
            int[] v = new int[5];
            for (int i = 0; i < 20; i++) {
                v[i / 4] |= (i == place ? 0x80 + i : ' ') << 24 - 8 * (i % 4);
            }
            HermitLadder x = new HermitLadder();
            E.due("feed", x.feed(v[0], v[1], v[2], v[3], v[4]), 20);
            E.due("cliff", x.cliff(20), -31);
            E.due("the place of byte " + place, x.fault(1), place);
        }
    }

    private static void tapeFull() {
        E.of(2, "-5: it would have more than 900.");
        HermitLadder x = new HermitLadder();
        for (int i = 1; i <= 45; i++) {
            E.due("feed " + i, x.feed(0x20202020, 0x20202020, 0x20202020, 0x20202020, 0x20202020), 20 * i);
        }
        E.go(x, "feed(0, 0, 0, 0, 0) = -5; count(8) = 900; feed(-1, 1, -1, 1, -1) = -5; count(8) = 900");
        E.go(x, "cliff(900) = -32; fault(1) = 900; count(8) = 0; feed(0, 0, 0, 0, 0) = 20");
    }

    private static void firstBytes() {
        E.of(3, "The first n bytes of THE TAPE (which is empty then) are THE CLIFF,");
        HermitLadder x = new HermitLadder();
        String text = C + "wind 12;hole 0001;";
        E.feed(x, text);
        E.go(x, "cliff(41) = -33; fault(1) = 28; count(8) = 0; cliff(1) = -3");
        E.feed(x, text);
        E.go(x, "cliff(29) = -32; fault(1) = 29; count(8) = 0");
        E.feed(x, text);
        E.go(x, "cliff(25) = -32; fault(1) = 23; count(8) = 0");
        E.feed(x, text);
        E.go(x, "cliff(26) = -32; fault(1) = 23");
        E.feed(x, text);
        E.go(x, "cliff(23) = 1; count(8) = 0; count(5) = 0; feed(0, 0, 0, 0, 0) = 20; count(8) = 20");
        E.go(x, "cliff(0) = -32; fault(0) = 2; fault(1) = 0; count(8) = 0");
        // Four digits of which three are read are an N.
        E.feed(x, C + "wind 0001;");
        E.go(x, "cliff(31) = -32; fault(1) = 31");
        E.feed(x, C + "wind 0001;");
        E.go(x, "cliff(32) = -31; fault(1) = 28");
        // A text that is as long as the tape, and one of a byte.
        E.feed(x, C + repeated(" ", 17));
        E.go(x, "count(8) = 40; cliff(40) = 1");
        E.feed(x, C);
        E.go(x, "cliff(1) = -32; fault(1) = 0; count(8) = 0");
    }

    private static void beginsAnew() {
        E.of(3, "no DEEDS were done, nothing can be UNDONE:");
        HermitLadder x = E.on(D + "pilgrim at 1 strength 2 has 1;wind 5;", "act(0) = 1; act(1) = 2; wind(7) = 5",
            "act(11) = 2");
        E.go(x, "count(6) = 3; count(7) = 4");
        E.due("the same text anew", E.tell(x, D + "pilgrim at 1 strength 2 has 1;wind 5;"), 3);
        E.go(x, "count(6) = 0; count(7) = 0; undo(1) = -3; count(2) = 1; count(3) = 2; count(4) = 2; count(5) = 5");
        E.due("another", E.tell(x, C), 1);
        E.go(x, "count(0) = 1; count(1) = 0; count(2) = 0; count(3) = 0; count(4) = 4; count(5) = 0; count(6) = 0",
            "undo(1) = -3");
    }

    private static void nothingOfEarlierTexts() {
        E.of(3, "are THE CLIFF,");
        String rich = "cliff rungs 2 things 2;hole 0 gives 0 rough 1;hole 1 bars 1 rough 9;hole 2 gives 1 rough 5;"
            + "slips 5;"
            + "tires : 3;may : not 1 = 1;pilgrim at 1 strength 1 has 0;";
        HermitLadder x = E.on(rich, "why(1) = 4; by(1, 2) = -5; soonest(2, 0) = -1");
        E.due("all but the laws", E.tell(x, rich.replace("may : not 1 = 1;", "may : 1 = 1;")), 8);
        E.go(x, "why(1) = 0; by(1, 2) = 3; soonest(2, 0) = 1; chance(2, 1, 1) = 2");
        E.due("nothing of it", E.tell(x, D), 1);
        for (int rung = 0; rung <= 2; rung++) {
            E.go(x, "hole(" + rung + ", 0) = 0; hole(" + rung + ", 1) = 0; hole(" + rung + ", 2) = 0");
        }
        E.go(x, "count(2) = 0; count(3) = 0; count(4) = 4; count(5) = 0; count(9) = 1; by(1, 2) = 3",
            "chance(1, 1, 1) = 1; habit(2) = 2; count(4) = 2");
        E.due("the law may alone", E.tell(x, D + "may : strength = 4;"), 2);
        E.go(x, "by(1, 2) = 3; act(1) = 1; why(1) = 4");
        E.due("no law", E.tell(x, D), 1);
        E.go(x, "act(1) = 1; act(1) = 2; count(4) = 2");
        E.due("the law tires alone", E.tell(x, D + "tires : 0;"), 2);
        E.go(x, "act(1) = 1; count(4) = 0; why(1) = 4");
        E.due("no law", E.tell(x, D), 1);
        E.go(x, "act(1) = 1; count(4) = 3");
        // Behind a text at fault the next is read from nothing, too.
        E.due("a fault at the end", E.tell(x, rich + "wind"), -32);
        E.due("then none", E.tell(x, D), 1);
        E.go(x, "hole(1, 0) = 0; hole(1, 2) = 0; count(2) = 0; count(9) = 1; act(1) = 1; count(4) = 3",
            "chance(2, 1, 1) = 1");
        // Laws that fill a text, one text behind the other.
        HermitLadder y = E.fresh();
        for (int i = 0; i < 9; i++) {
            int strength = i % 5;
            E.due("a long law", E.tell(y, C + "tires:" + strength + repeated("-1+1", 217) + " ;"), 2);
            E.go(y, "by(1, 2) = " + strength);
        }
    }

    private static void allStays() {
        E.of(3, "how many LINES (cliff, too; all stays with a FAULT).");
        HermitLadder x = E.on(C, "count(9) = 1");
        E.due("two", E.tell(x, C + "hole 0;"), 2);
        E.go(x, "count(9) = 2");
        E.due("of one kind twice", E.tell(x, D + "wind 1;wind 1;hole 1 bars 1;tires : 3;may : strength > 1;slips 5;"
            + "pilgrim at 0 strength 3 has 0;"), 8);
        E.go(x, "count(9) = 8; wind(4) = 1; act(1) = 1");
        String fault = "cliff rungs 8 things 6;wind 9;slips 9;tires : 0;may : 1 = 2;hole 1 bars 0 gives 1 rough 9;"
            + "pilgrim at 8 strength 0 has 5;";
        E.due("a fault at the end", E.tell(x, fault + "wind"), -32);
        E.go(x, "count(0) = 2; count(1) = 2; count(2) = 1; count(3) = 1; count(4) = 3; count(5) = 4; count(6) = 1",
            "count(7) = 2");
        E.go(x, "count(8) = 0; count(9) = 8; hole(1, 0) = 2; hole(1, 1) = 0; hole(1, 2) = 0; why(1) = 0; by(1, 2) = 3");
        E.go(x, "chance(2, 1, 1) = 2; undo(2) = 0; count(2) = 0; count(5) = 1; stands() = 12");
        E.due("no text at all", E.tell(x, ""), -32);
        E.go(x, "count(9) = 8; count(0) = 2");
        HermitLadder y = E.fresh("cliff(0) = -32; count(0) = 1; count(4) = 4; count(9) = 0; act(1) = 1");
        E.due("a fault behind deeds", E.tell(y, "#"), -31);
        E.go(y, "count(6) = 1; count(7) = 1; count(2) = 1; undo(1) = 0; count(2) = 0");
    }

    private static void notSoMany() {
        E.of(3, "-3: n is below 0 or above what there is (THE TAPE stays);");
        HermitLadder x = E.fresh("cliff(1) = -3; cliff(-1) = -3; cliff(MAX) = -3; cliff(MIN) = -3; fault(0) = 0");
        E.feed(x, C);
        E.go(x, "cliff(41) = -3; count(8) = 40; cliff(-1) = -3; cliff(MAX) = -3; cliff(MIN) = -3; cliff(901) = -3");
        E.go(x, "count(8) = 40; cliff(40) = 1; cliff(1) = -3");
        E.of(3, "-30 less the FAULT.");
        E.due("1", E.tell(x, "!"), -31);
        E.due("2", E.tell(x, "wind"), -32);
        E.due("3", E.tell(x, "cliff rungs 0"), -33);
        E.due("4", E.tell(x, C + "may:not not not not not not not"), -34);
    }

    private static void faultAsked() {
        E.of(4, "Of the latest cliff() that was read, what 0: its FAULT (0), 1: its place (NONE).");
        HermitLadder x = E.fresh("fault(0) = 0; fault(1) = -1");
        E.due("a fault", E.tell(x, C + "wind 10;"), -33);
        E.go(x, "fault(0) = 3; fault(1) = 28; cliff(1) = -3; cliff(-1) = -3; fault(0) = 3; fault(1) = 28");
        E.go(x, "image(0) = 0; act(1) = 1; fault(0) = 3; fault(1) = 28; restore(0) = 0; fault(0) = 3; fault(1) = 28");
        E.due("none", E.tell(x, C), 1);
        E.go(x, "fault(0) = 0; fault(1) = -1; restore(0) = 0; fault(0) = 0; fault(1) = -1");
        E.due("at the first place", E.tell(x, "?"), -31);
        E.go(x, "fault(0) = 1; fault(1) = 0");
        E.of(4, "NONE for others.");
        E.go(x, "fault(2) = -1; fault(-1) = -1; fault(MAX) = -1; fault(MIN) = -1");
        E.fresh("fault(2) = -1; fault(-1) = -1");
    }

    private static void holeAsked() {
        E.of(5, "Of a RUNG, what 0: what it bars, as bits, 1: what it gives, as bits, 2: how rough it is.");
        HermitLadder x = E.on("cliff rungs 8 things 6;hole 8 bars 0 bars 1 bars 2 bars 3 bars 4 bars 5 rough 9;"
            + "hole 0 gives 0 gives 1 gives 2 gives 3 gives 4 gives 5 rough 1;hole 4 bars 5 gives 0;");
        E.go(x, "hole(8, 0) = 63; hole(8, 1) = 0; hole(8, 2) = 9; hole(0, 0) = 0; hole(0, 1) = 63; hole(0, 2) = 1");
        E.go(x, "hole(4, 0) = 32; hole(4, 1) = 1; hole(4, 2) = 0; hole(5, 0) = 0; hole(5, 1) = 0; hole(5, 2) = 0");
        E.of(5, "-2.");
        E.go(x, "hole(9, 0) = -2; hole(-1, 0) = -2; hole(MAX, 1) = -2; hole(MIN, 2) = -2; hole(0, 3) = -2",
            "hole(0, -1) = -2");
        E.go(x, "hole(8, MAX) = -2; hole(8, MIN) = -2");
        E.on(C, "hole(1, 0) = 0; hole(2, 0) = -2; hole(8, 0) = -2");
    }

    // ---- ==== 1: the grammar

    private static void longTexts() {
        E.of(3, "THE CLIFF is a TEXT of at most 900 bytes");
        E.good(C + repeated("hole 0;", 125) + "  ", 126);
        E.good(repeated(" ", 877) + C, 1);
        E.good(C + repeated("\n", 877), 1);
        E.bad(repeated(" ", 878) + C.substring(0, 22), 2, 900);
        E.bad(C + repeated("hole 0;", 125) + ";;", 2, 898);
        E.bad(C + repeated("hole 0;", 125) + " #", 1, 899);
        // Laws that fill the text: 1 - 1 + 1 ..., 1 * 1 ..., and truths in a row.
        HermitLadder sum = E.good(C + "tires:1" + repeated("-1+1", 217) + " ;", 2);
        E.go(sum, "by(1, 2) = 1");
        HermitLadder product = E.good(C + "tires:3" + repeated("*1", 434) + " ;", 2);
        E.go(product, "by(1, 2) = 3");
        HermitLadder ors = E.good(C + "may:1=2" + repeated(" or 1=2", 123) + " or 1=1;", 2);
        E.go(ors, "why(1) = 0");
        HermitLadder ands = E.good(C + "may:1=1" + repeated(" and 1=1", 107) + " and 2=1;", 2);
        E.go(ands, "why(1) = 4");
    }

    private static void lineForms() {
        E.of(3, "cliff rungs N things N ; { LINE ; } LINE: hole N { FLAG } | pilgrim at N strength N { has N } | wind N"
            + " | slips N | tires : SUM | may : TRUTH. FLAG: bars N | gives N | rough N.");
        E.good(C, 1);
        E.good(C + "hole 1;", 2);
        E.good(D + "hole 1 bars 1;hole 1 gives 1;hole 1 rough 1;hole 1 rough 1 gives 0 bars 0 gives 1 bars 1;", 5);
        E.good(D + "pilgrim at 1 strength 1;pilgrim at 1 strength 1 has 1;pilgrim at 1 strength 1 has 1 has 0;", 4);
        E.good(C + "wind 1;slips 1;tires:1;may:1=1;", 5);
        E.good(ALL, 9);
        String[] words = ALL.split(" ");
        StringBuilder begun = new StringBuilder();
        int lines = 0;
        for (String word : words) {
            // What ends ahead of a semicolon is not yet a text.
            begun.append(begun.length() == 0 ? "" : " ").append(word);
            if (word.equals(";")) {
                lines++;
                E.good(begun.toString(), lines);
            } else {
                E.bad(begun.toString(), 2, begun.length());
            }
        }
        String[] tooShort = {"hole", "hole 1 bars", "hole 1 gives", "hole 1 rough", "hole 1 bars 1 rough", "pilgrim",
            "pilgrim at", "pilgrim at 1",
            "pilgrim at 1 strength", "pilgrim at 1 strength 1 has", "pilgrim at 1 strength 1 has 1 has", "wind",
            "slips", "tires", "tires:", "tires:1+", "tires:1*",
            "tires:(", "tires:(1", "tires:if", "tires:if 1", "tires:if 1=", "tires:if 1=1", "tires:if 1=1 then",
            "tires:if 1=1 then 1", "tires:if 1=1 then 1 else",
            "tires:if 1=1 then 1 else 1", "may", "may:", "may:1", "may:1=", "may:1<", "may:1>", "may:not", "may:[",
            "may:[1=1", "may:1=1 or", "may:1=1 and"};
        for (String line : tooShort) {
            E.bad(D + line + ";", 2, 23 + line.length());
            E.bad(D + line, 2, 23 + line.length());
        }
        E.bad("cliff;", 2, 5);
        E.bad("cliff rungs;", 2, 11);
        E.bad("cliff rungs 1 things;", 2, 20);
        E.bad(C + ";", 2, 23);
        E.bad(C + "hole 1 1;", 2, 30);
        E.bad(D + "hole bars 1;", 2, 28);
        E.bad(D + "hole 1 has 1;", 2, 30);
        E.bad(D + "hole 1 bars 1 1;", 2, 37);
        E.bad(D + "pilgrim 1 strength 1;", 2, 31);
        E.bad(D + "pilgrim at 1;", 2, 35);
        E.bad(D + "pilgrim at 1 strength 1 bars 1;", 2, 47);
        E.bad(D + "pilgrim has 1 at 1 strength 1;", 2, 31);
        E.bad(C + "wind 1 wind 1;", 2, 30);
        E.bad(C + "wind : 1;", 2, 28);
        E.bad(C + "tires 1;", 2, 29);
        E.bad(C + "may 1 = 1;", 2, 27);
        E.bad("cliff things 1 rungs 1;", 2, 6);
        E.bad("cliff rungs 1;", 2, 13);
        E.bad("cliff rungs 1 things 0 wind 1;", 2, 23);
    }

    private static void tells(String sum, int strength) {
        E.on("cliff rungs 2 things 3;hole 2 rough 2 bars 1;pilgrim at 1 strength 3 has 0;wind 4;tires : " + sum + ";",
            "by(1, 2) = " + strength);
    }

    private static void holds(String truth, boolean so) {
        E.on("cliff rungs 2 things 3;hole 2 rough 2 bars 1;pilgrim at 1 strength 3 has 0;wind 4;may : " + truth + ";",
            "why(1) = " + (so ? 0 : 4));
    }

    private static void sums() {
        E.of(7, "SUM: TERM { + TERM | - TERM }; TERM: ATOM { * ATOM }; ATOM: N, ( SUM ), if TRUTH then SUM else SUM"
            + " end,"
            + " rung, rough, strength, things, wind, in may room too.");
        tells("9 - 3 - 2 - 1", 3);
        tells("9 - (3 - 2) - 5", 3);
        tells("1 + 2 * 1", 3);
        tells("(1 + 0) * 2", 2);
        tells("2 * 2 * 1 - 1", 3);
        tells("8 - 2 * 3 + 1", 3);
        tells("0", 0);
        tells("000", 0);
        tells("003", 3);
        tells("999 - 998", 1);
        tells("(((1)))", 1);
        tells("rung", 2);
        tells("rough", 2);
        tells("strength", 3);
        tells("things", 1);
        tells("wind - 2", 2);
        tells("if 1 = 1 then 2 else 3 end * 1", 2);
        tells("if 1 = 2 then 2 else 2 + 1 end", 3);
        tells("if 1 = 1 then if 1 = 2 then 0 else 1 end else 3 end + 1", 2);
        holds("room = 2", true);
        holds("(room) * 1 = if room = 2 then room else 9 end", true);
        E.bad(C + "tires:;", 2, 29);
        E.bad(C + "tires:();", 2, 30);
        E.bad(C + "tires:1+;", 2, 31);
        E.bad(C + "tires:1*;", 2, 31);
        E.bad(C + "tires:-1;", 2, 29);
        E.bad(C + "tires:+1;", 2, 29);
        E.bad(C + "tires:*1;", 2, 29);
        E.bad(C + "tires:1+-1;", 2, 31);
        E.bad(C + "tires:1 1;", 2, 31);
        E.bad(C + "tires:(1;", 2, 31);
        E.bad(C + "tires:1);", 2, 30);
        E.bad(C + "tires:(1];", 2, 31);
        E.bad(C + "tires:if 1 then 1 else 1 end;", 2, 34);
        E.bad(C + "tires:if 1=1 else 1 end;", 2, 36);
        E.bad(C + "tires:if 1=1 then else 1 end;", 2, 41);
        E.bad(C + "tires:if 1=1 then 1 end;", 2, 43);
        E.bad(C + "tires:if 1=1 then 1 else 1;", 2, 49);
        E.bad(C + "tires:1=1;", 2, 30);
        E.bad(C + "tires:slips;", 2, 29);
    }

    private static void truths() {
        E.of(6, "TRUTH: BOTH { or BOTH }; BOTH: UNIT { and UNIT }; UNIT: not UNIT, [ TRUTH ], or SUM, one of = < >,"
            + " SUM.");
        holds("1 = 1", true);
        holds("1 = 2", false);
        holds("1 < 2", true);
        holds("2 < 2", false);
        holds("3 < 2", false);
        holds("2 > 1", true);
        holds("2 > 2", false);
        holds("2 > 3", false);
        holds("1 = 2 or 1 = 3 or 1 = 1", true);
        holds("1 = 2 or 1 = 3 or 1 = 4", false);
        holds("1 = 1 and 2 = 2 and 3 = 3", true);
        holds("1 = 1 and 2 = 2 and 3 = 4", false);
        holds("1 = 2 and 2 = 2 and 3 = 3", false);
        holds("1 = 1 or 1 = 1 and 1 = 2", true);
        holds("1 = 2 and 1 = 1 or 1 = 1", true);
        holds("[1 = 1 or 1 = 1] and 1 = 2", false);
        holds("not 1 = 2 or 1 = 1", true);
        holds("not [1 = 2 or 1 = 1]", false);
        holds("not 1 = 1 and 1 = 2", false);
        holds("not 1 = 2 and 1 = 2", false);
        holds("1 < 2 and 2 > 1 and 1 = 1", true);
        holds("1 = 1 and 1 < 2", true);
        holds("2 > 1 and 1 = 1", true);
        holds("1 = 2 or 2 > 1", true);
        holds("1 < 0 or 2 > 3", false);
        holds("not 1 < 2", false);
        holds("not 2 > 1", false);
        holds("not [1 < 2 and 2 > 1]", false);
        holds("not 2 < 1", true);
        holds("not not 1 = 1", true);
        holds("not not not 1 = 1", false);
        holds("0 - 1 < 0", true);
        holds("1 + 1 = 2 * 1", true);
        E.bad(C + "may:;", 2, 27);
        E.bad(C + "may:1;", 2, 28);
        E.bad(C + "may:1=;", 2, 29);
        E.bad(C + "may:=1;", 2, 27);
        E.bad(C + "may:1=1=1;", 2, 30);
        E.bad(C + "may:1<=1;", 2, 29);
        E.bad(C + "may:not;", 2, 30);
        E.bad(C + "may:[];", 2, 28);
        E.bad(C + "may:[1=1;", 2, 31);
        E.bad(C + "may:[1=1);", 2, 31);
        E.bad(C + "may:1=1];", 2, 30);
        E.bad(C + "may:(1=1);", 2, 29);
        E.bad(C + "may:[1]=1;", 2, 29);
        E.bad(C + "may:1=1 or;", 2, 33);
        E.bad(C + "may:1=1 and or 1=1;", 2, 35);
        E.bad(C + "may:or 1=1;", 2, 27);
        E.bad(C + "may:1=not 1=1;", 2, 29);
        E.bad(C + "may:1=1 not 1=1;", 2, 31);
    }

    private static void depths() {
        E.of(3, "At most six of not [ ( if within one another.");
        E.good(C + "tires:((((((1))))));", 2);
        E.good(C + "may:not not not not not not 1=1;", 2);
        E.good(C + "may:[[[[[[1=1]]]]]];", 2);
        String sixIfs = repeated("if 1=1 then ", 6) + "2" + repeated(" else 3 end", 6);
        E.go(E.good(C + "tires:" + sixIfs + ";", 2), "by(1, 2) = 2");
        String sixElses = repeated("if 1=2 then 1 else ", 6) + "3" + repeated(" end", 6);
        E.go(E.good(C + "tires:" + sixElses + ";", 2), "by(1, 2) = 3");
        String sixTruths = repeated("if ", 6) + "1=1" + repeated(" then 1 else 2 end=1", 5) + " then 3 else 0 end";
        E.go(E.good(C + "tires:" + sixTruths + ";", 2), "by(1, 2) = 3");
        E.go(E.good(C + "may:not[not[(if 1=1 then 1 else 2 end)=1]];", 2), "why(1) = 0");
        // What has ended is not around what comes behind it.
        E.good(C + "tires:((((((1))))))+((((((1))))))*((((((1))))));", 2);
        E.good(C + "may:not not not not not not 1=1 and not not not not not not 1=1 or [[[[[[1=1]]]]]];", 2);
        E.good(C + "may:[[[[[[1=1]and[1=1]]]]]]and((((((1))))))=((((((1))))));", 2);
        E.good(C + "tires:" + sixIfs + "-" + sixElses + ";tires:((((((1))))));may:[[[[[[1=1]]]]]];", 4);
        E.good(C + "tires:if [[[[[1=1]]]]] then (((((1))))) else (((((1))))) end;", 2);
    }

    // ---- ==== 1: bounds

    private static void toldOfCliffAndHoles() {
        E.of(3, "cliff: how many RUNGS, 1 to 8 (0 is the foot, then 1 and so on, as many; the last one is the top),"
            + " how many THINGS, 0 to 6.");
        E.bad("cliff rungs 0 things 0;", 3, 12);
        E.bad("cliff rungs 9 things 0;", 3, 12);
        E.bad("cliff rungs 1 things 7;", 3, 21);
        E.bad("cliff rungs 999 things 0;", 3, 12);
        E.bad("cliff rungs 1 things 999;", 3, 21);
        E.go(E.good("cliff rungs 1 things 0;", 1), "count(0) = 1; count(1) = 0; act(1) = 1; act(1) = -12; act(2) = 0",
            "act(2) = -12");
        E.go(E.good("cliff rungs 8 things 6;hole 0;hole 8;", 3), "count(0) = 8; count(1) = 6; hole(8, 0) = 0",
            "hole(9, 0) = -2",
            "habit(12) = 8; why(1) = 2; why(15) = 2; why(16) = 1");
        E.of(5, "hole: of a RUNG, 0 to the top (a later one of the same RUNG adds): bars, gives: a THING (as many as"
            + " one likes),"
            + " rough 0 to 9 (0; a later one strikes).");
        E.bad(D + "hole 3;", 3, 28);
        E.bad(D + "hole 2 bars 2;", 3, 35);
        E.bad(D + "hole 2 gives 2;", 3, 36);
        E.bad(D + "hole 2 rough 10;", 3, 36);
        E.go(E.good(D + "hole 0 bars 0;hole 2 bars 1;hole 0 bars 1 gives 0;hole 2;", 5), "hole(0, 0) = 3",
            "hole(0, 1) = 1; hole(2, 0) = 2");
        E.go(E.good(D + "hole 1 bars 0 bars 0 bars 1 gives 1 gives 1;", 2), "hole(1, 0) = 3; hole(1, 1) = 2",
            "hole(1, 2) = 0");
        E.go(E.good(D + "hole 1 rough 9;hole 1;hole 2 rough 9 rough 0;hole 0 rough 1;hole 0 rough 8;hole 0 bars 1;", 7),
            "hole(1, 2) = 9; hole(2, 2) = 0; hole(0, 2) = 8");
    }

    private static void toldOfPilgrimWindSlips() {
        E.of(40, "pilgrim: at a RUNG (0), STRENGTH 0 to 4 (4), has: a THING; it may be one that is barred there.");
        E.bad(D + "pilgrim at 3 strength 0;", 3, 34);
        E.bad(D + "pilgrim at 2 strength 5;", 3, 45);
        E.bad(D + "pilgrim at 2 strength 4 has 2;", 3, 51);
        E.on(D, "count(2) = 0; count(3) = 0; count(4) = 4");
        E.on(D + "pilgrim at 0 strength 0;", "count(2) = 0; count(3) = 0; count(4) = 0");
        E.on(D + "pilgrim at 2 strength 4 has 0 has 1 has 0;", "count(2) = 2; count(3) = 3; count(4) = 4");
        E.on(D + "hole 1 bars 1;pilgrim at 1 strength 4 has 1;", "count(2) = 1; count(3) = 2; act(0) = 1; act(1) = 2",
            "act(2) = -13");
        E.on(D + "pilgrim at 1 strength 4 has 1;hole 1 bars 1;", "count(3) = 2; act(2) = 0; act(1) = -13");
        E.of(40, "wind 0 to 9 (0), slips: how likely one slips, in 10, 0 to 10 (0).");
        E.bad(D + "wind 10;", 3, 28);
        E.bad(D + "slips 11;", 3, 29);
        E.on(D + "wind 9;", "count(5) = 9");
        E.on(D + "wind 0;", "count(5) = 0");
        E.on(D, "count(5) = 0; chance(1, 1, 0) = 1; chance(1, 1, 1) = 1");
        E.on(D + "slips 0;", "chance(1, 1, 0) = 1; chance(1, 1, 1) = 1");
        E.on(D + "slips 1;", "chance(1, 1, 0) = 9; chance(1, 1, 1) = 10");
        E.on(D + "slips 9;", "chance(1, 1, 0) = 1; chance(1, 1, 1) = 10");
        E.on(D + "slips 10;", "chance(1, 1, 0) = 0; chance(1, 1, 1) = 1");
    }

    private static void laterOnesStrike() {
        E.of(3, "Later ones of pilgrim, wind, slips, tires, may strike.");
        E.on(D + "pilgrim at 2 strength 1 has 0;pilgrim at 1 strength 2 has 1;", "count(2) = 1; count(3) = 2",
            "count(4) = 2");
        E.on(D + "pilgrim at 2 strength 1 has 0;pilgrim at 0 strength 0;", "count(2) = 0; count(3) = 0; count(4) = 0");
        E.on(D + "wind 9;wind 0;", "count(5) = 0");
        E.on(D + "slips 10;slips 0;", "chance(1, 1, 0) = 1");
        E.on(D + "tires : 1;tires : 2;", "by(1, 2) = 2");
        E.on(D + "tires : 1 + 1;tires : 0;tires : 3;", "by(1, 2) = 3");
        E.on(D + "may : 1 = 1;may : 1 = 2;", "why(1) = 4");
        E.on(D + "may : 1 = 2;tires : 1;may : 1 = 1;tires : 3;", "by(1, 2) = 3");
    }

    // ---- ==== 1: tokens and faults

    private static boolean isSign(int c) {
        return ";:+-*()[]=<>".indexOf(c) >= 0;
    }

    private static void tokens() {
        E.of(3, "TOKENS, as long as they go on, between them blanks (10, 32): words (small letters), N (1 to 3 digits),"
            + " the signs ; : + - * ( ) [ ] = < >.");
        E.go(E.good("cliff rungs 2things 2;hole 1bars 1gives 0rough 9;wind 007;pilgrim at 2strength 3has 1;", 4),
            "hole(1, 0) = 2; hole(1, 1) = 1; hole(1, 2) = 9; count(5) = 7; count(2) = 2; count(3) = 2");
        E.good("cliff\nrungs\n2 \n things 2\n\n;\n \nwind\n1;\n", 2);
        E.good("cliff rungs2things2;hole1bars1;may:not[1=1]or[1=1]and not 1<2;", 3);
        E.bad("cliffrungs 2 things 2;", 2, 0);
        E.bad("cliff rungsthings 2;", 2, 6);
        E.bad(D + "holes 1;", 2, 23);
        E.bad(D + "hol 1;", 2, 23);
        E.bad(D + "may:notnot 1=1;", 2, 27);
        E.bad(D + "wind 0 1;", 2, 30);
        E.bad(D + "wind 1 0;", 2, 30);
        for (int c = 0; c < 256; c++) {
            boolean begins = c >= 'a' && c <= 'z' || c >= '0' && c <= '9' || isSign(c);
            if (c == 10 || c == 32) {
                E.good(D + (char) c, 1);
            } else {
                E.bad(D + (char) c, begins ? 2 : 1, 23);
            }
            // Behind a word and behind an N: what goes on with them, and what begins anew.
            boolean letter = c >= 'a' && c <= 'z';
            boolean digit = c >= '0' && c <= '9';
            boolean blank = c == 10 || c == 32;
            if (!blank && !letter && !digit) {
                E.bad(D + "wind" + (char) c, begins ? 2 : 1, 27);
            }
            if (!blank && c != ';') {
                E.bad(D + "wind 1" + (char) c, digit ? 3 : begins ? 2 : 1, digit ? 28 : 29);
            }
        }
    }

    private static void faultsInOrder() {
        E.of(4, "FAULTS, the first along the text, of one TOKEN the least kind: 1 no TOKEN begins so (4 digits and"
            + " more: at their first).");
        E.bad("cliff rungs 9 things 9 # (", 3, 12);
        E.bad("cliff rungs 8 things 9 # (", 3, 21);
        E.bad("cliff rungs 8 things 6 # (", 1, 23);
        E.bad("cliff rungs 8 things 6 ( #", 2, 23);
        E.bad("cliff rungs 9# things 6;", 3, 12);
        E.bad("# cliff rungs 9", 1, 0);
        E.bad(C + "may:not not not not not not not #", 4, 51);
        E.bad(C + "may:not not not not not not # not", 1, 51);
        // Four digits would be out of their bounds too, and can't stand there.
        E.bad("cliff rungs 0001 things 0;", 1, 12);
        E.bad("cliff rungs 9999 things 0;", 1, 12);
        E.bad("0001 rungs 1 things 0;", 1, 0);
        E.bad("cliff 1000 1 things 0;", 1, 6);
        E.bad(C + "wind 00000000000000000000000000001;", 1, 28);
        E.bad(C + "tires : 9999;", 1, 31);
        E.bad(C + "tires : 1 + 1000;", 1, 35);
        E.bad(C + "wind 1000", 1, 28);
        E.good(C + "tires : 999;", 2);
        // An N out of all bounds, a seventh of its kind, where neither can stand.
        E.bad("cliff 999 rungs 1;", 2, 6);
        E.bad(C + "tires:((((((not 1=1", 2, 35);
        E.bad(C + "tires:(((((([1=1", 2, 35);
        E.bad(C + "tires:((((((1(", 2, 36);
        E.bad(C + "may:not not not not not not 1=1 not", 2, 55);
        E.bad(C + "may:[[[[[[1=1 [", 2, 37);
        E.bad(C + "may:[[[[[[1=1 if", 2, 37);
        // No token begins so, whatever is asked for in its place.
        String[] words = ALL.split(" ");
        int at = 0;
        for (int i = 0; i < words.length; i++) {
            String ahead = ALL.substring(0, at);
            E.bad(ahead + "#" + ALL.substring(at + words[i].length()), 1, at);
            E.bad(ahead + "1234" + ALL.substring(at + words[i].length()), 1, at);
            at += words[i].length() + 1;
        }
    }

    private static void cannotStand() {
        E.of(4, "2 it can't stand there (the end: the text's length; cliff must be told first, and once; room in"
            + " tires).");
        E.bad("", 2, 0);
        E.bad(" ", 2, 1);
        E.bad("\n\n \n", 2, 4);
        E.bad("cliff", 2, 5);
        E.bad("cliff  ", 2, 7);
        E.bad(C + "wind", 2, 27);
        E.bad(C + "wind 1", 2, 29);
        E.bad(C + "wind 1 \n", 2, 31);
        E.bad(C + "tires:1+", 2, 31);
        E.bad(";", 2, 0);
        E.bad("wind 1;" + C, 2, 0);
        E.bad("rungs 1 things 0;", 2, 0);
        E.bad(C + C, 2, 23);
        E.bad(C + "wind 1;" + C, 2, 30);
        E.bad(D + "tires : room;", 2, 31);
        E.bad(D + "tires : 1 + (2 * room);", 2, 40);
        E.bad(D + "tires : if room = 1 then 1 else 1 end;", 2, 34);
        E.bad(D + "may : room = 1;tires : room;", 2, 46);
        E.bad(D + "tires : 1;may : room = 1;tires : 1 - room;", 2, 60);
        E.good(D + "tires : 1;may : 1 = room;", 3);
        E.good(D + "may : if room = 1 then room else (room) end > 0;tires : 1;may : room = room;", 4);
        // A word of no meaning, in the place of every token.
        String[] words = ALL.split(" ");
        int at = 0;
        for (int i = 0; i < words.length; i++) {
            E.bad(ALL.substring(0, at) + "zebra" + ALL.substring(at + words[i].length()), 2, at);
            at += words[i].length() + 1;
        }
    }

    private static void outOfBounds() {
        E.of(4, "3 an N out of its bounds (a THING that isn't).");
        E.bad("cliff rungs 1 things 0;hole 0 bars 0;", 3, 35);
        E.bad("cliff rungs 1 things 0;hole 0 gives 0;", 3, 36);
        E.bad("cliff rungs 1 things 0;pilgrim at 0 strength 0 has 0;", 3, 51);
        E.bad("cliff rungs 1 things 6;hole 0 bars 6;", 3, 35);
        E.good("cliff rungs 1 things 6;hole 0 bars 5 gives 5;pilgrim at 1 strength 0 has 5;", 3);
        E.bad("cliff rungs 1 things 0;hole 2;", 3, 28);
        E.bad("cliff rungs 1 things 0;pilgrim at 2", 3, 34);
        E.bad(D + "wind 999", 3, 28);
        // Each N of all lines, out of its bounds by one; those in laws have none.
        String[] words = ALL.split(" ");
        int at = 0;
        for (int i = 0; i < words.length && !words[i].equals("tires"); i++) {
            if (words[i].matches("[0-9]+")) {
                String rest = ALL.substring(at + words[i].length());
                E.bad(ALL.substring(0, at) + beyond(words[i - 1]) + rest, 3, at);
                E.bad(ALL.substring(0, at) + "999" + rest, 3, at);
            }
            at += words[i].length() + 1;
        }
        E.good(C + "tires : 999 * 999;may : 999 > 000;", 3);
    }

    /** One more than may stand behind a word in the text of every kind of line. */
    private static int beyond(String word) {
        switch (word) {
            case "rungs": return 9;
            case "things": return 7;
            case "hole": case "at": return 4;
            case "strength": return 5;
            case "rough": case "wind": return 10;
            case "slips": return 11;
            default: return 4;
        }
    }

    private static void seventh() {
        E.of(4, "4 a seventh of not [ ( if.");
        E.bad(C + "tires:(((((((1)))))));", 4, 35);
        E.bad(C + "may:not not not not not not not 1=1;", 4, 51);
        E.bad(C + "may:[[[[[[[1=1]]]]]]];", 4, 33);
        E.bad(C + "may:((((((if 1=1", 4, 33);
        String sixIfs = repeated("if 1=1 then ", 6);
        E.bad(C + "tires:" + sixIfs + "if", 4, 29 + 72);
        E.bad(C + "tires:" + sixIfs + "(", 4, 29 + 72);
        E.bad(C + "tires:" + repeated("if ", 6) + "(", 4, 29 + 18);
        E.bad(C + "tires:" + repeated("if ", 6) + "not", 4, 29 + 18);
        E.bad(C + "tires:" + repeated("if ", 6) + "[", 4, 29 + 18);
        E.bad(C + "tires:" + repeated("if 1=1 then 1 else ", 6) + "(", 4, 29 + 114);
        String[] kinds = {"not ", "[ ", "( ", "if "};
        for (String kind : kinds) {
            E.bad(C + "may:" + repeated("not ", 6) + kind, 4, 27 + 24);
            E.bad(C + "may:" + repeated("[ ", 6) + kind, 4, 27 + 12);
        }
        // Counted anew behind what has ended.
        E.bad(C + "tires:((((((1))))))+(((((((1", 4, 29 + 20);
        E.bad(C + "tires:1;tires:(((((((1", 4, 43);
        E.bad(C + "tires:(1)*((2)-(((((((", 4, 29 + 14);
    }
}
