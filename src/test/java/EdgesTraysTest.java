/** The sentences of ==== 3 on trays and images, and of promises 35 to 40, that name a boundary case. */
public final class EdgesTraysTest {
    private static final Edges E = new Edges("EdgesTraysTest");
    private static final String C = "cliff rungs 1 things 0;";
    private static final String D = "cliff rungs 2 things 2;";

    public static void main(String[] args) {
        trays();
        numbers();
        write();
        lists();
        images();
        image();
        restore();
        count();
        none();
        E.end();
    }

    // ---- trays

    private static void trays() {
        E.of(35, "TRAYS 0 to 3 are MISSING at first, or have 0 to 40 numbers of 8 bits (sort 0), 16 (1), 32 (2), 64"
            + " (3).");
        HermitLadder x = E.fresh();
        for (int tray = 0; tray < 4; tray++) {
            E.go(x, "judge(" + tray + ", 0) = -6; perform(" + tray + ") = -6; write(" + tray + ", 0, 0) = -6",
                "seen(" + tray + ") = -6; winds(" + tray + ") = -6");
        }
        for (int tray = 0; tray < 4; tray++) {
            // Of a sort each: the widest number that stays as it is, and the next, which does not.
            String widest = new String[] {"127", "32767", "2147483647", "LMAX"}[tray];
            String least = new String[] {"-128", "-32768", "-2147483648", "LMIN"}[tray];
            String cut = new String[] {"0x100", "0x10000", "0x100000000", "0"}[tray];
            E.go(x, "numbers(" + tray + ", " + tray + ", 40) = 0; write(" + tray + ", 39, " + widest + ") = " + widest,
                "write(" + tray + ", 39, " + least + ") = " + least, "write(" + tray + ", 39, " + cut + ") = 0",
                "judge(" + tray + ", 0) = -1");
            E.go(x, "numbers(" + tray + ", " + tray + ", 0) = 0; judge(" + tray + ", 0) = -1",
                "perform(" + tray + ") = 0; write(" + tray + ", 0, 0) = -7");
        }
        E.go(x, "numbers(4, 0, 1) = -2; judge(4, 0) = -2");
        // Another cliff, undoing and images leave the trays as they are.
        HermitLadder y = E.on(D, "fill(0, 1, 1); image(0) = 0; act(1) = 1");
        E.due("another cliff", E.tell(y, C), 1);
        E.go(y, "judge(0, 0) = 1; judge(0, 2) = 1; judge(1, 0) = -6; restore(0) = 0; judge(0, 0) = -1",
            "judge(0, 2) = 2; numbers(0, 0, 0); act(1) = 1; undo(1) = 0; judge(0, 2) = 0");
    }

    private static void numbers() {
        E.of(35, "A TRAY has n numbers of a sort, all 0 (in place of another one): 0.");
        HermitLadder x = E.fresh("numbers(0, 0, 1) = 0; seen(0) = 2; numbers(0, 3, 2) = 0; write(0, 0, 99) = 99",
            "write(0, 1, 99) = 99; numbers(0, 3, 2) = 0; judge(0, 0) = -1; seen(0) = 4");
        E.go(x, "numbers(0, 0, 40) = 0; write(0, 39, 5) = 5; judge(0, 0) = 39; numbers(0, 1, 40) = 0",
            "judge(0, 0) = -1; numbers(0, 2, 3) = 0; write(0, 3, 0) = -7; write(0, 2, 9) = 9; numbers(0, 2, 2) = 0");
        E.go(x, "numbers(0, 2, 3) = 0; judge(0, 0) = -1; numbers(3, 3, 0) = 0; judge(3, 0) = -1; numbers(3, 0, 1) = 0",
            "write(3, 0, 300) = 44; numbers(3, 1, 1) = 0; write(3, 0, 300) = 300");
        E.of(35, "-2: no such TRAY, sort; -3, and the TRAY stays: n is below 0 or above 40.");
        E.go(x, "numbers(4, 0, 1) = -2; numbers(-1, 0, 1) = -2; numbers(MAX, 0, 1) = -2; numbers(MIN, 0, 1) = -2",
            "numbers(0, 4, 1) = -2; numbers(0, -1, 1) = -2; numbers(0, MAX, 1) = -2; numbers(0, MIN, 1) = -2");
        E.go(x, "numbers(1, 0, 41) = -3; judge(1, 0) = -6; numbers(1, 0, -1) = -3; judge(1, 0) = -6",
            "numbers(4, 0, 41) = -2; numbers(0, 4, -1) = -2");
        E.go(x, "numbers(1, 3, 3) = 0; write(1, 2, 77) = 77; numbers(1, 0, 41) = -3; numbers(1, 0, -1) = -3",
            "numbers(1, 0, MAX) = -3; numbers(1, 0, MIN) = -3; numbers(1, 4, 1) = -2");
        E.go(x, "judge(1, 0) = 2; write(1, 3, 0) = -7; write(1, 2, 300) = 300; judge(1, 0) = 2");
    }

    private static void write() {
        E.of(36, "Number i of a TRAY is v, cut to its sort: as it is there.");
        HermitLadder x = E.fresh("numbers(0, 0, 2); numbers(1, 1, 2); numbers(2, 2, 2); numbers(3, 3, 2)");
        E.go(x, "write(0, 0, 127) = 127; write(0, 0, 128) = -128; write(0, 0, 255) = -1; write(0, 0, 256) = 0",
            "write(0, 0, 257) = 1; write(0, 0, -128) = -128; write(0, 0, -129) = 127; write(0, 0, LMIN) = 0",
            "write(0, 0, LMAX) = -1");
        E.go(x, "write(1, 0, 32767) = 32767; write(1, 0, 32768) = -32768; write(1, 0, 65535) = -1",
            "write(1, 0, 65536) = 0; write(1, 0, -32769) = 32767; write(1, 0, LMIN) = 0; write(1, 0, LMAX) = -1",
            "write(1, 0, 300) = 300");
        E.go(x, "write(2, 0, MAX) = MAX; write(2, 0, 0x80000000) = MIN; write(2, 0, 0xffffffff) = -1",
            "write(2, 0, 0x100000000) = 0; write(2, 0, -2147483649) = MAX; write(2, 0, LMIN) = 0",
            "write(2, 0, LMAX) = -1");
        E.go(x, "write(3, 0, LMAX) = LMAX; write(3, 0, LMIN) = LMIN; write(3, 0, 0x100000000) = 0x100000000",
            "write(3, 0, -1) = -1");
        // It is there: 1 behind 257 of 8 bits is a climb; the other number stays.
        E.go(x, "write(0, 0, 257) = 1; judge(0, 0) = -1; judge(0, 2) = 1; write(0, 1, 258) = 2; judge(0, 2) = 0",
            "judge(0, 0) = -1; write(1, 0, 257) = 257; judge(1, 0) = 0");
        E.of(36, "-2: no such TRAY; -6; -7.");
        E.go(x, "write(4, 0, 0) = -2; write(-1, 0, 0) = -2; write(MAX, 0, 0) = -2; write(MIN, 0, 0) = -2",
            "write(0, 2, 0) = -7; write(0, -1, 0) = -7; write(0, 40, 0) = -7; write(0, MAX, 0) = -7",
            "write(0, MIN, 0) = -7");
        E.go(x, "numbers(0, 0, 0); write(0, 0, 0) = -7; numbers(0, 0, 40); write(0, 39, 1) = 1; write(0, 40, 1) = -7",
            "write(4, 99, 0) = -2");
        E.fresh("write(0, 0, 5) = -6; write(3, -1, 5) = -6; write(2, 40, 5) = -6; write(4, 0, 5) = -2");
    }

    private static void lists() {
        E.of(37, "DEEDS of COMING to a RUNG with a set come into a TRAY, as far as it has places: how many.");
        String text = "cliff rungs 2 things 2;hole 1 bars 0 gives 1;pilgrim at 0 strength 4 has 0;";
        HermitLadder x = E.on(text, "numbers(0, 0, 6); write(0, 3, 99); write(0, 4, 98); lists(0, 2, 2) = 4",
            "judge(0, 0) = 4; judge(0, 2) = 2; judge(0, 3) = 2; write(0, 4, 0); judge(0, 0) = -1");
        E.go(x, "numbers(1, 3, 2); lists(1, 2, 2) = 2; judge(1, 0) = -1; judge(1, 2) = 1; judge(1, 3) = 0",
            "numbers(1, 1, 4); lists(1, 2, 2) = 4; judge(1, 2) = 2; numbers(1, 2, 3); lists(1, 2, 2) = 3",
            "judge(1, 3) = 2");
        E.go(x, "numbers(2, 3, 0); lists(2, 2, 2) = 0; judge(2, 0) = -1; fill(2, 99); lists(2, 0, 1) = 0",
            "judge(2, 0) = 0; lists(2, 0, 0) = 0; judge(2, 0) = 0; count(6) = 0");
        E.go(x, "numbers(3, 0, 40); lists(3, 2, 2) = 4; judge(3, 2) = 2; perform(3) = 40; count(2) = 2; count(3) = 2",
            "count(6) = 40");
        E.on("cliff rungs 8 things 0;may : strength = 4;tires : 0;pilgrim at 0 strength 0;", "numbers(0, 0, 40)",
            "lists(0, 8, 0) = 40; judge(0, 2) = 8; numbers(0, 0, 39); lists(0, 8, 0) = 39; judge(0, 2) = 7");
        E.of(37, "-2: the TRAY, the RUNG; -6; -3: the set; -5: there is none.");
        HermitLadder y = E.on(text, "lists(4, 0, 0) = -2; lists(-1, 0, 0) = -2; lists(MAX, 0, 0) = -2",
            "lists(MIN, 0, 0) = -2; lists(0, 3, 0) = -2; lists(0, -1, 0) = -2; lists(0, 0, 0) = -6",
            "lists(3, 0, 4) = -6; lists(3, 2, 1) = -6");
        E.go(y, "fill(0, 1, 99); lists(0, 3, 0) = -2; lists(0, MAX, 4) = -2; lists(0, MIN, 0) = -2",
            "lists(0, 0, 4) = -3; lists(0, 0, -1) = -3; lists(0, 2, MAX) = -3; lists(0, 2, MIN) = -3",
            "lists(0, 2, 1) = -5; lists(0, 1, 3) = -5");
        E.go(y, "judge(0, 0) = 0; judge(0, 1) = 3; numbers(1, 0, 0); lists(1, 2, 1) = -5; lists(1, 2, 0) = 0");
    }

    // ---- images

    private static void images() {
        E.of(38, "IMAGES 0 to 1: THE CLIFF and what a call could bring back by UNDOING; nothing can be UNDONE behind"
            + " (none at first).");
        HermitLadder x = E.on("cliff rungs 3 things 2;hole 1 bars 1 gives 0 rough 3;tires : strength - rough + 1;"
            + "may : strength > wind;wind 1;slips 5;pilgrim at 0 strength 4 has 0;");
        E.go(x, "restore(0) = -5; restore(1) = -5; act(1) = 1; wind(0) = 1; image(1) = 0; restore(0) = -5",
            "count(7) = 2; act(0) = 1; act(10) = 1");
        E.due("another cliff", E.tell(x, "cliff rungs 8 things 6;hole 1 gives 5;slips 0;wind 9;"), 4);
        E.go(x, "act(1) = 1; act(25) = 1; image(0) = 0; wind(2) = 9; restore(1) = 0");
        E.go(x, "count(0) = 3; count(1) = 2; count(2) = 1; count(3) = 1; count(4) = 2; count(5) = 0; count(6) = 1",
            "count(7) = 0; count(9) = 7; undo(1) = -3");
        E.go(x, "hole(1, 0) = 2; hole(1, 1) = 1; hole(1, 2) = 3; hole(4, 0) = -2; chance(2, 1, 1) = 2; why(1) = 0",
            "by(1, 2) = 3; wind(2) = 0; why(1) = 4; undo(1) = 0; undo(1) = -3");
        E.go(x, "restore(0) = 0; count(0) = 8; count(1) = 6; count(2) = 1; count(3) = 32; count(4) = 3; count(5) = 9",
            "count(6) = 2; count(7) = 0; count(9) = 4; undo(1) = -3");
        E.go(x, "hole(1, 1) = 32; hole(1, 0) = 0; hole(8, 2) = 0; chance(2, 1, 1) = 1; by(1, 2) = 2; stands() = 90");
        // Laws of one image and of the other, by the same wind, and those of a text read between.
        HermitLadder z = E.on(D + "tires : 1 + 1;may : not 1 = 2 and 2 = 2;", "by(1, 2) = 2; image(0) = 0");
        E.due("another", E.tell(z, D + "tires : (0 + 0) * 5;may : 1 = 1;"), 3);
        E.go(z, "by(1, 2) = 0; image(1) = 0; restore(0) = 0; why(1) = 0; by(1, 2) = 2; restore(1) = 0; by(1, 2) = 0",
            "soonest(2, 0) = 2");
        E.due("a third", E.tell(z, D + "may : 1 = 2 or 3 = 4 or 5 = 6;tires : 7 - 8 - 9;"), 3);
        E.go(z, "why(1) = 4; soonest(1, 0) = -1; restore(0) = 0; why(1) = 0; by(1, 2) = 2; soonest(2, 0) = 2",
            "restore(1) = 0; by(1, 2) = 0; why(1) = 0");
        // The cliff that is there without a text.
        HermitLadder y = E.fresh("image(0) = 0; act(1) = 1; image(1) = 0");
        E.due("a text", E.tell(y, D), 1);
        E.go(y, "restore(0) = 0; count(0) = 1; count(1) = 0; count(2) = 0; count(9) = 0; restore(1) = 0; count(2) = 1",
            "count(4) = 3; count(6) = 1; restore(0) = 0; count(2) = 0");
    }

    private static void image() {
        E.of(38, "An IMAGE is made: 0.");
        HermitLadder x = E.on(D, "image(0) = 0; image(1) = 0; act(1) = 1; image(0) = 0; act(1) = 2; restore(0) = 0",
            "count(2) = 1; restore(1) = 0; count(2) = 0; image(0) = 0; restore(0) = 0; count(2) = 0");
        // Making one does nothing that could be undone, and leaves what can be.
        E.go(x, "act(1) = 1; count(7) = 1; image(0) = 0; count(7) = 1; count(6) = 1; undo(1) = 0; count(2) = 0",
            "restore(0) = 0; count(2) = 1; undo(1) = -3");
        E.of(38, "-2.");
        E.go(x, "image(2) = -2; image(-1) = -2; image(MAX) = -2; image(MIN) = -2");
    }

    private static void restore() {
        E.of(39, "All that is in an IMAGE is as it was: 0.");
        HermitLadder x = E.on(D + "hole 0 gives 1;wind 3;", "act(21) = 0; image(0) = 0; act(1) = 1; act(11) = 1",
            "wind(5) = 3; restore(0) = 0; count(2) = 0; count(3) = 2; count(4) = 4; count(5) = 3; count(6) = 1",
            "count(7) = 0");
        // Again, behind deeds from there; what is asked of coming is asked anew.
        E.go(x, "soonest(2, 2) = 2; act(1) = 1; soonest(2, 2) = 1; count(7) = 1; restore(0) = 0; soonest(2, 2) = 2",
            "count(6) = 1; undo(1) = -3");
        // What is in no image stays: the tape, the trays.
        E.go(x, "feed(0, 0, 0, 0, 0) = 20; fill(2, 1); restore(0) = 0; count(8) = 20; judge(2, 2) = 1");
        E.of(39, "-2; -5: none was made.");
        E.go(x, "restore(1) = -5; restore(2) = -2; restore(-1) = -2; restore(MAX) = -2; restore(MIN) = -2",
            "count(6) = 1; image(2) = -2; restore(1) = -5");
        E.fresh("restore(0) = -5; restore(1) = -5; restore(2) = -2; act(1) = 1; restore(0) = -5; count(2) = 1",
            "count(7) = 1");
    }

    // ---- counts

    private static void count() {
        E.of(40, "0 the top RUNG, 1 THINGS there are, 2 the RUNG where he is, 3 THINGS he has, as bits, 4 STRENGTH, 5"
            + " WIND, 6 DEEDS done (BY HABIT, too),"
            + " 7 calls that can be UNDONE, 8 bytes on THE TAPE, 9 LINES.");
        HermitLadder x = E.on("cliff rungs 8 things 6;wind 9;"
            + "pilgrim at 0 strength 4 has 0 has 1 has 2 has 3 has 4 has 5;");
        E.go(x, "count(0) = 8; count(1) = 6; count(2) = 0; count(3) = 63; count(4) = 4; count(5) = 9; count(6) = 0",
            "count(7) = 0; count(8) = 0; count(9) = 3");
        E.go(x, "act(0); habit(99) = 8; count(6) = 100; count(2) = 8; fill(0, 2, 30, 35, 15); perform(0) = 4",
            "count(6) = 102; count(5) = 5; count(3) = 31; count(2) = 7; year(1, 2) = 1; count(6) = 103; count(7) = 4");
        E.go(x, "wind(6) = 5; count(6) = 103; count(7) = 5; feed(0, 0, 0, 0, 0) = 20; count(8) = 20; undo(5) = 0",
            "count(6) = 0; count(2) = 0; count(3) = 63; count(5) = 9");
        E.of(40, "NONE for others.");
        E.go(x, "count(10) = -1; count(-1) = -1; count(MAX) = -1; count(MIN) = -1");
    }

    private static void none() {
        E.of(40, "`NONE = -1`: There is none.");
        E.due("NONE", HermitLadder.NONE, -1);
    }
}
