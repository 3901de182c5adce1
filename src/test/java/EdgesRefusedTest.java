/** The sentences of ==== 3 on refused calls, for each call of the face, and how long an object is used. */
public final class EdgesRefusedTest {
    private static final Edges E = new Edges("EdgesRefusedTest");

    /** Things of all kinds are done; tray 3 is missing, image 1 was never made. */
    private static final String TEXT = "cliff rungs 3 things 2;hole 0 gives 1;hole 1 bars 0 gives 1 rough 2;"
        + "hole 2 bars 1;hole 3 bars 1;"
        + "tires : strength - 1;may : strength > wind or rung = 3;slips 5;wind 1;pilgrim at 0 strength 3 has 0;";

    /** Every refused call that there can be behind made(), with its code. */
    private static final String[] REFUSED = {
        "cliff(-1) = -3", "cliff(41) = -3", "cliff(MIN) = -3", "cliff(MAX) = -3",
        "hole(4, 0) = -2", "hole(-1, 0) = -2", "hole(0, 3) = -2", "hole(0, -1) = -2",
        "by(0, 3) = -2", "by(0, -1) = -2", "by(1, 0) = -5", "by(20, 0) = -5", "by(99, 0) = -5",
        "act(3) = -11", "act(12) = -11", "act(30) = -11", "act(-1) = -11", "act(10) = -12", "act(20) = -12",
        "act(1) = -13",
        "wind(10) = -11", "wind(-1) = -11", "habit(0) = -3", "habit(100) = -3", "undo(0) = -3", "undo(-1) = -3",
        "undo(6) = -3", "undo(11) = -3",
        "judge(4, 0) = -2", "judge(-1, 0) = -2", "judge(0, 4) = -2", "judge(0, -1) = -2", "judge(3, 0) = -6",
        "perform(4) = -2", "perform(-1) = -2", "perform(3) = -6", "year(1, 0) = -3", "year(1, 41) = -3",
        "soonest(4, 0) = -2", "soonest(-1, 0) = -2", "soonest(0, 4) = -3", "soonest(0, -1) = -3",
        "way(4, 0, 0) = -2", "way(0, 4, 0) = -3", "way(0, 0, -1) = -3", "rows(4, 0, 0) = -2", "rows(0, 4, 0) = -3",
        "rows(0, 0, 11) = -3", "rows(0, 0, -1) = -3",
        "highest(4) = -3", "highest(-1) = -3", "most(4, 0) = -2", "most(0, 2) = -2", "loses(4) = -2",
        "lands(4, 0) = -2", "lands(0, 2) = -2",
        "shares(4, 0, 0) = -2", "shares(0, 0, 1) = -2", "shares(0, 0, 12) = -2", "shares(0, 4, 0) = -3",
        "lies(-1) = -3", "lies(100000) = -3",
        "round(2) = -2", "when(4) = -2", "seen(4) = -2", "seen(3) = -6", "seen(1) = -4", "seen(2) = -3",
        "seenBy(4, 0) = -2", "seenBy(3, 0) = -6", "seenBy(1, 0) = -4", "seenBy(2, 0) = -3", "surely(4) = -2",
        "surely(3) = -6", "surely(1) = -4", "surely(2) = -3",
        "winds(4) = -2", "winds(3) = -6", "winds(1) = -4", "winds(2) = -3", "attempt(4) = -2", "attempt(3) = -6",
        "attempt(1) = -4", "attempt(2) = -3",
        "withstands(4) = -2", "chance(4, 0, 0) = -2", "chance(0, 0, 2) = -2", "chance(0, 9, 0) = -3", "best(4, 0) = -2",
        "best(0, 9) = -3",
        "numbers(4, 0, 1) = -2", "numbers(0, 4, 1) = -2", "numbers(0, 0, 41) = -3", "numbers(0, 0, -1) = -3",
        "numbers(3, 0, 41) = -3",
        "write(4, 0, 5) = -2", "write(3, 0, 5) = -6", "write(0, 3, 5) = -7", "write(0, -1, 5) = -7",
        "lists(4, 0, 0) = -2", "lists(0, 4, 0) = -2", "lists(3, 0, 0) = -6", "lists(0, 0, 4) = -3",
        "lists(0, 3, 2) = -5",
        "image(2) = -2", "image(-1) = -2", "restore(2) = -2", "restore(1) = -5",
    };

    /** Calls that ask, and do nothing. */
    private static final String[] ASKED = {
        "fault(0)", "fault(1)", "fault(9)", "hole(1, 0)", "why(1)", "why(0)", "why(99)", "by(0, 2)", "by(11, 1)",
        "judge(0, 0)", "judge(0, 1)", "judge(0, 2)", "judge(0, 3)",
        "judge(1, 0)", "judge(2, 1)", "soonest(3, 0)", "soonest(3, 2)", "way(3, 0, 1)", "way(3, 0, 99)",
        "rows(3, 0, 10)", "highest(0)", "highest(3)", "most(3, 0)", "most(3, 1)",
        "loses(3)", "stands()", "lands(3, 0)", "shares(3, 3, 0)", "shares(3, 3, 11)", "lies(0)", "lies(99999)",
        "round(0)", "round(1)", "when(3)", "when(0)", "seen(0)", "seenBy(0, 0)",
        "surely(0)", "winds(0)", "attempt(0)", "withstands(3)", "chance(3, 8, 0)", "chance(3, 8, 1)", "best(3, 8)",
        "count(2)", "count(99)", "perform(2)",
    };

    public static void main(String[] args) {
        changeNothing();
        askingChangesNothing();
        tapeIsFull();
        eachCode();
        whichFirst();
        aheadOfNone();
        longUse();
        E.end();
    }

    private static HermitLadder made() {
        HermitLadder x = E.on(TEXT, "image(0) = 0");
        E.due("a fault", E.tell(x, TEXT + "wind 10;"), -33);
        E.feed(x, "cliff rungs 1 things 1;wind 9;hole 1;");
        // Tray 0 is as seen and as tired, tray 1 has too many numbers, tray 2 one that can't be.
        E.go(x, "fill(0, 0, 1, 2); fill(1, 0, 1, 2, 0, 1, 1, 1, 34, 33); fill(2, 99)");
        E.go(x, "act(21) = 0; wind(0) = 1; act(10) = 0; act(1) = 1; act(0) = 1; count(7) = 5");
        return x;
    }

    /** All that can be asked, then what undoing, the image and the tape bring. */
    private static String all(HermitLadder x) {
        StringBuilder s = new StringBuilder();
        counts(x, s);
        for (int rung = 0; rung <= 3; rung++) {
            s.append(x.hole(rung, 0)).append(' ').append(x.hole(rung, 1)).append(' ').append(x.hole(rung,
                2)).append(' ');
            s.append(x.soonest(rung, 0)).append(' ').append(x.rows(rung, 0, 4)).append(' ').append(x.chance(rung, 4,
                0)).append(' ');
        }
        for (int deed = 0; deed < 30; deed++) {
            s.append(x.why(deed));
        }
        for (int tray = 0; tray < 4; tray++) {
            for (int what = 0; what < 4; what++) {
                s.append(' ').append(x.judge(tray, what));
            }
            s.append(' ').append(x.seen(tray)).append(' ').append(x.winds(tray));
        }
        s.append(' ').append(x.stands()).append(' ').append(x.lies(5));
        s.append(' ').append(x.round(0)).append(' ').append(x.by(2, 2));
        for (int i = 0; i < 6; i++) {
            s.append(" undo ").append(x.undo(1)).append(' ');
            counts(x, s);
        }
        s.append(" image ").append(x.restore(1)).append(' ').append(x.restore(0)).append(' ');
        counts(x, s);
        s.append(" tape ").append(x.cliff(37)).append(' ');
        counts(x, s);
        return s.toString();
    }

    private static void counts(HermitLadder x, StringBuilder s) {
        for (int what = 0; what <= 9; what++) {
            s.append(x.count(what)).append(' ');
        }
        s.append(x.fault(0)).append(' ').append(x.fault(1)).append(' ');
    }

    private static void leavesAll(String call, String before) {
        HermitLadder x = made();
        E.go(x, call);
        String then = all(x);
        E.due(call + " changes nothing: it was " + before + "; it is " + then, then.equals(before) ? 1 : 0, 1);
        E.go(x, "count(8) = 0");
    }

    private static void changeNothing() {
        E.of(40, "Refused calls answer by a code and change nothing:");
        String before = all(made());
        for (String call : REFUSED) {
            leavesAll(call, before);
        }
        // Where the law forbids a climb, and there is nothing below.
        E.on("cliff rungs 1 things 0;pilgrim at 0 strength 0;", "act(1) = -14; act(2) = -12; count(2) = 0",
            "count(4) = 0; count(6) = 0; count(7) = 0");
    }

    private static void askingChangesNothing() {
        E.of(40, "Nothing is promised beyond the answers and state changes described above,");
        String before = all(made());
        for (String call : ASKED) {
            leavesAll(call, before);
        }
    }

    private static void tapeIsFull() {
        E.of(2, "-5 it can't be now;");
        HermitLadder x = E.fresh();
        E.feed(x, "cliff rungs 3 things 1;" + " ".repeat(877));
        E.go(x, "count(8) = 900; feed(-1, -1, -1, -1, -1) = -5; feed(0, 0, 0, 0, 0) = -5; count(8) = 900",
            "cliff(900) = 1; count(0) = 3; count(1) = 1; count(8) = 0");
    }

    private static void eachCode() {
        HermitLadder x = made();
        E.of(40, "-2 there is none such;");
        E.go(x, "hole(4, 0) = -2; by(0, 3) = -2; judge(4, 0) = -2; perform(4) = -2; soonest(4, 0) = -2",
            "most(4, 0) = -2; lands(0, 2) = -2; round(2) = -2; image(2) = -2; restore(2) = -2");
        E.of(40, "-3 a number can't be;");
        E.go(x, "cliff(-1) = -3; habit(0) = -3; undo(0) = -3; year(0, 0) = -3; soonest(0, 4) = -3; way(0, 0, -1) = -3",
            "rows(0, 0, 11) = -3; lies(-1) = -3; seen(2) = -3; chance(0, 9, 0) = -3; numbers(0, 0, 41) = -3");
        E.of(27, "-4 too many;");
        E.go(x, "seen(1) = -4; seenBy(1, 0) = -4; surely(1) = -4; winds(1) = -4; attempt(1) = -4",
            "numbers(1, 0, 0) = 0; seen(1) = -4; winds(1) = -4");
        E.of(7, "-5 it can't be now;");
        E.go(x, "by(1, 0) = -5; restore(1) = -5; lists(0, 3, 2) = -5");
        E.of(13, "-6 a TRAY is MISSING;");
        E.go(x, "judge(3, 0) = -6; perform(3) = -6; seen(3) = -6; seenBy(3, 0) = -6; surely(3) = -6; winds(3) = -6",
            "attempt(3) = -6; write(3, 0, 0) = -6; lists(3, 0, 0) = -6");
        E.of(36, "-7 it has no such number;");
        E.go(x, "write(0, 3, 0) = -7; write(0, -1, 0) = -7; write(1, 0, 0) = -7");
        E.of(8, "-11 to -14 why not (1 to 4);");
        E.go(x, "act(99) = -11; wind(10) = -11; act(20) = -12; act(1) = -13");
        E.on("cliff rungs 1 things 0;may : 1 = 2;", "act(1) = -14");
        E.of(3, "-30 less the FAULT: a text.");
        HermitLadder y = E.fresh();
        E.due("1", E.tell(y, "%"), -31);
        E.due("2", E.tell(y, "cliff cliff"), -32);
        E.due("3", E.tell(y, "cliff rungs 9"), -33);
        E.due("4", E.tell(y, "cliff rungs 1 things 0;tires:((((((("), -34);
    }

    private static void whichFirst() {
        E.of(40, "(Of several that which the call tells first; all these ahead of NONE.)");
        HermitLadder x = made();
        E.go(x, "by(99, 3) = -2; by(1, -1) = -2; judge(3, 4) = -2; judge(4, 4) = -2; soonest(4, 4) = -2",
            "way(4, 4, -1) = -2; way(0, 4, -1) = -3; rows(4, 4, 11) = -2; rows(0, 4, 11) = -3");
        E.go(x, "most(4, 2) = -2; lands(4, 2) = -2; shares(4, 4, 1) = -2; shares(0, 4, 1) = -2; shares(4, 4, 0) = -2",
            "chance(4, 9, 2) = -2; chance(0, 9, 2) = -2; chance(4, 9, 0) = -2; best(4, 9) = -2");
        E.go(x, "numbers(4, 4, 41) = -2; numbers(0, 4, 41) = -2; numbers(4, 0, -1) = -2; write(4, 99, 0) = -2",
            "write(3, 99, 0) = -6; write(3, -1, 0) = -6");
        E.go(x, "lists(4, 4, 4) = -2; lists(3, 4, 4) = -2; lists(4, 0, 4) = -2; lists(3, 0, 4) = -6",
            "lists(3, 3, 2) = -6; lists(0, 3, 4) = -3; seenBy(4, -1) = -2; seenBy(3, -1) = -6; seenBy(1, -1) = -4",
            "seenBy(2, -1) = -3");
        // Too many numbers, one of which can't be.
        E.go(x, "fill(1, 9, 9, 9, 9, 9, 9, 9, 9, 9); seen(1) = -4; seenBy(1, 0) = -4; surely(1) = -4; winds(1) = -4",
            "attempt(1) = -4");
    }

    private static void aheadOfNone() {
        E.of(40, "all these ahead of NONE.)");
        // It can't be; he is there; there are none; and yet the code is answered.
        HermitLadder x = made();
        E.go(x, "soonest(3, 2) = -1; soonest(4, 2) = -2; soonest(3, 6) = -3; way(3, 2, 0) = -1; way(3, 2, -1) = -3",
            "highest(1) = -1; highest(5) = -3; best(1, 0) = -1; best(1, 9) = -3; best(1, -1) = -3");
        E.go(x, "fill(0, 6); seen(0) = 0; seenBy(0, 0) = -1; seenBy(0, -1) = -3; fill(0, 6, 7); seenBy(0, 0) = -3",
            "fill(0, 0); winds(0) = 0; attempt(0) = -1; fill(0, 0, 5); attempt(0) = -3");
        E.go(x, "lands(0, 0) = -1; lands(0, 2) = -2; lands(4, 0) = -2; shares(0, 1, 10) = -1; shares(0, 5, 10) = -3",
            "when(0) = -1; when(4) = -2");
        E.on("cliff rungs 1 things 0;may : 1 = 2;", "withstands(1) = -1; withstands(2) = -2; most(1, 0) = -1",
            "most(1, 2) = -2; most(2, 0) = -2; best(1, 8) = -1; best(1, 9) = -3");
    }

    private static void longUse() {
        E.of(40, "An object is used for at most 512 calls after it has been made; what later calls answer is free.");
        HermitLadder x = E.fresh();
        for (int i = 1; i < 512; i++) {
            x.act(0);
        }
        E.due("the 512th call", x.count(6), 511);
        HermitLadder y = E.fresh();
        for (int i = 1; i < 512; i++) {
            y.habit(99);
        }
        E.due("the 512th call", y.count(6), 511 * 99);
        StringBuilder text = new StringBuilder("cliff rungs 8 things 6;slips 5;");
        for (int rung = 0; rung <= 8; rung++) {
            text.append("hole ").append(rung).append(" gives 0 gives 1 gives 2 gives 3 gives 4 gives 5;");
        }
        HermitLadder z = E.on(text.toString(), "fill(0, -1, -1, -1, -1, -1, 6)");
        for (int i = 0; i < 36; i++) {
            // The dearest calls again and again: they answer as at first.
            E.go(z, "wind(" + i % 10 + "); stands() = 2880; soonest(8, 63) = 18; chance(4, 8, 0) = 11",
                "rows(8, 63, 10) = 0; seen(0) = 720; lies(99999) = 8; restore(0) = " + (i == 0 ? -5 : 0) + "",
                "image(0) = 0");
        }
        E.go(z, "count(5) = 0; count(7) = 0; stands() = 2880");
        E.of(40, "and nothing about an object after its 512th call.");
        HermitLadder w = E.fresh();
        for (int i = 1; i < 512; i++) {
            w.feed(i, i, i, i, i);
        }
        E.due("the 512th call", w.count(8), 900);
    }
}
