/** Promises 27 to 31: what was had by what was seen, winds by how one tired, what to try. */
public final class SeenTiredTest {
    private static final Checks CHECKS = new Checks("SeenTiredTest");

    public static void main(String[] args) {
        seen();
        seenRefused();
        winds();
        attempts();
        tiredRefused();
        CHECKS.end();
    }

    private static void due(String call, long got, long want) {
        CHECKS.due(call, got, want);
    }

    private static void first(HermitLadder x, int... deeds) {
        for (int i = 0; i < deeds.length; i++) {
            due("seenBy(0, " + i + ")", x.seenBy(0, i), deeds[i]);
        }
        due("seenBy: not so many", x.seenBy(0, deeds.length), -1);
        due("seenBy: not so many", x.seenBy(0, Integer.MAX_VALUE), -1);
    }

    private static void seen() {
        HermitLadder x = Checks.on("cliff rungs 1 things 3;hole 0 gives 1 gives 2;may : 1 = 2;pilgrim at 0 strength 4 has 0;");
        Checks.fill(x, 0, 1);
        due("only a rest", x.seen(0), 1);
        first(x, 0);
        due("he has what he had", x.surely(0), 1);
        Checks.fill(x, 0, 2);
        due("one of two taken", x.seen(0), 2);
        first(x, 21);
        due("thing 0 is sure", x.surely(0), 1);
        Checks.fill(x, 0, 0, 1);
        due("let fall, then one taken", x.seen(0), 2);
        first(x, 10, 21);
        due("neither is sure", x.surely(0), 0);
        Checks.fill(x, 0, 2, 3);
        due("both taken", x.seen(0), 2);
        first(x, 21, 22);
        due("all are sure", x.surely(0), 7);
        Checks.fill(x, 0, -1, 0);
        // Rest and fall, fall and rest.
        due("not seen at first", x.seen(0), 2);
        first(x, 0, 10);
        Checks.fill(x, 0, -1);
        due("not seen at all", x.seen(0), 4);
        first(x, 0);
        Checks.fill(x, 0, 2, 1, 2, -1, 1, 0);
        CHECKS.holds("the last must be none", x.seen(0) > 0 && x.surely(0) == 0);
        Checks.fill(x, 0, 3);
        due("can't be", x.seen(0), 0);
        due("can't be: surely", x.surely(0), 0);
        due("can't be: seenBy", x.seenBy(0, 0), -1);
        Checks.fill(x, 0, 1, 1, 4);
        due("more than there are", x.seen(0), 0);
        due("more than there are: seenBy", x.seenBy(0, 0), -1);
        due("nothing was done", x.count(6), 0);
        // The first deed by numbers may lead nowhere: it must be one that a row goes on from.
        HermitLadder y = Checks.on("cliff rungs 1 things 1;hole 1 gives 0;pilgrim at 0 strength 4;");
        Checks.fill(y, 0, 0, 1);
        due("climb, then take", y.seen(0), 1);
        first(y, 1, 20);
        due("surely", y.surely(0), 1);
        // Each by itself, on an object that was asked nothing else.
        String text = "cliff rungs 1 things 1;hole 1 gives 0;pilgrim at 0 strength 4;";
        HermitLadder z = Checks.on(text);
        Checks.fill(z, 0, 0, 1, 1);
        due("seenBy by itself", z.seenBy(0, 1), 20);
        HermitLadder w = Checks.on(text);
        Checks.fill(w, 0, 0, 1, 1);
        due("surely by itself", w.surely(0), 1);
        Checks.fill(w, 0, 0, 0);
        due("surely anew", w.surely(0), 0);
        Checks.fill(w, 0, 0, 1);
        due("seenBy anew", w.seenBy(0, 0), 1);
        w.act(1);
        due("seenBy from now on", w.seenBy(0, 0), 0);
    }

    private static void seenRefused() {
        HermitLadder x = Checks.on("cliff rungs 1 things 1;");
        due("no such tray", x.seen(4), -2);
        due("no such tray", x.seen(-1), -2);
        due("missing", x.seen(0), -6);
        due("missing goes ahead of i", x.seenBy(0, -1), -6);
        due("missing", x.surely(0), -6);
        x.numbers(0, 0, 0);
        due("none", x.seen(0), -4);
        x.numbers(0, 0, 7);
        due("too many", x.seen(0), -4);
        due("too many", x.seenBy(0, -1), -4);
        due("too many", x.surely(0), -4);
        x.numbers(0, 0, 6);
        due("six", x.seen(0), rests(x));
        due("i below 0", x.seenBy(0, -1), -3);
        Checks.fill(x, 0, 0, 7);
        due("above 6", x.seen(0), -3);
        due("above 6", x.seenBy(0, 0), -3);
        due("above 6", x.surely(0), -3);
        Checks.fill(x, 0, 0, -2);
        due("below NONE", x.seen(0), -3);
        Checks.fill(x, 0, 1L << 32, 0);
        due("a wide number", x.seen(0), -3);
        Checks.fill(x, 0, 6, -1);
        due("six things", x.seen(0), 0);
    }

    /** Without a thing in reach all rows of six deeds are so. */
    private static long rests(HermitLadder x) {
        return x.rows(0, 0, 6) + x.rows(1, 0, 6);
    }

    private static void winds() {
        HermitLadder x = Checks.on("cliff rungs 3 things 1;hole 3 bars 0;tires : strength - wind;may : strength > 0;"
            + "pilgrim at 0 strength 4 has 0;wind 5;");
        Checks.fill(x, 0, 3);
        due("wind 1", x.winds(0), 2);
        Checks.fill(x, 0, 0);
        due("wind 4 and above", x.winds(0), 1008);
        Checks.fill(x, 0, 0, 1, 0);
        due("rest, and again", x.winds(0), 1008);
        Checks.fill(x, 0, 4, 4, 4, 4, 4, 4, 4, 4);
        due("no wind; behind the second climb he rests", x.winds(0), 1);
        Checks.fill(x, 0, 3, 2, 3);
        due("barred, so he rests", x.winds(0), 2);
        Checks.fill(x, 0, 3, 3);
        due("no wind does so", x.winds(0), 0);
        due("no wind does so: attempt", x.attempt(0), -1);
        due("the wind stays", x.count(5), 5);
        due("the laws stay", x.by(1, 2), 0);
        HermitLadder y = new HermitLadder();
        Checks.fill(y, 0, 3, 4);
        due("all winds alike", y.winds(0), 1023);
        due("nothing tells them apart", y.attempt(0), 0);
    }

    private static void attempts() {
        // By winds below 5 he can climb, and is as strong as by a rest.
        HermitLadder x = Checks.on("cliff rungs 2 things 0;may : wind < 5;tires : strength + 1;pilgrim at 0 strength 2;");
        Checks.fill(x, 0, 3);
        due("all winds", x.winds(0), 1023);
        due("a climb halves them", x.attempt(0), 1);
        HermitLadder y = Checks.on("cliff rungs 2 things 0;tires : strength - wind;pilgrim at 0 strength 4;");
        Checks.fill(y, 0, 2);
        due("one wind alone", y.winds(0), 4);
        due("all are as good, so the first", y.attempt(0), 0);
        HermitLadder z = Checks.on("cliff rungs 2 things 0;may : wind = 0 or wind > 1;"
            + "tires : if wind > 1 then 0 else strength + 1 end;pilgrim at 0 strength 2;");
        Checks.fill(z, 0, 3);
        due("by no wind a climb, by wind 1 a rest", z.winds(0), 3);
        due("a climb tells them apart", z.attempt(0), 1);
        HermitLadder w = Checks.on("cliff rungs 2 things 0;may : wind < 4 or wind > 6;"
            + "tires : if wind < 4 then 3 else 1 end;pilgrim at 0 strength 0;");
        Checks.fill(w, 0, 1);
        due("winds 4 to 9", w.winds(0), 1008);
        due("winds that can't be don't count", w.attempt(0), 1);
        due("the wind stays", y.count(5), 0);
    }

    private static void tiredRefused() {
        HermitLadder x = new HermitLadder();
        due("no such tray", x.winds(4), -2);
        due("no such tray", x.attempt(-1), -2);
        due("missing", x.winds(3), -6);
        due("missing", x.attempt(3), -6);
        x.numbers(3, 2, 0);
        due("none", x.winds(3), -4);
        x.numbers(3, 2, 9);
        due("too many", x.winds(3), -4);
        due("too many", x.attempt(3), -4);
        x.numbers(3, 2, 8);
        due("eight", x.winds(3), 0);
        Checks.fill(x, 3, 3, 5);
        due("above 4", x.winds(3), -3);
        due("above 4", x.attempt(3), -3);
        Checks.fill(x, 3, -1);
        due("NONE is none here", x.winds(3), -3);
    }
}
