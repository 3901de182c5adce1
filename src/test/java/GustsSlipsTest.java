/** Promises 32 to 34: gusts withstood, chances, what is best. */
public final class GustsSlipsTest {
    private static final Checks CHECKS = new Checks("GustsSlipsTest");

    public static void main(String[] args) {
        gusts();
        chances();
        best();
        CHECKS.end();
    }

    private static void due(String call, long got, long want) {
        CHECKS.due(call, got, want);
    }

    private static void gusts() {
        HermitLadder x = Checks.on("cliff rungs 3 things 1;may : strength = 4 and rung < 3;tires : 0;pilgrim at 1 strength 1 has 0;");
        due("where he is", x.withstands(1), 9);
        due("up, resting", x.withstands(2), 9);
        due("down", x.withstands(0), 9);
        due("can't come there", x.withstands(3), -1);
        due("no such rung", x.withstands(4), -2);
        due("no such rung", x.withstands(-1), -2);
        // Too strong to climb, and nothing but a climb tires: a gust can't hurt who can come there.
        HermitLadder y = Checks.on("cliff rungs 2 things 0;may : strength < 2;tires : 1;pilgrim at 0 strength 1;");
        due("weak enough", y.withstands(2), 9);
        y.act(0);
        due("too strong", y.withstands(2), -1);
    }

    private static void likely(HermitLadder x, int rung, int n, int above, int below) {
        due("chance(" + rung + ", " + n + ", 0)", x.chance(rung, n, 0), above);
        due("chance(" + rung + ", " + n + ", 1)", x.chance(rung, n, 1), below);
    }

    private static void chances() {
        HermitLadder x = Checks.on("cliff rungs 2 things 0;slips 3;");
        likely(x, 0, 0, 1, 1);
        likely(x, 0, 8, 1, 1);
        likely(x, 1, 0, 0, 1);
        likely(x, 1, 1, 7, 10);
        likely(x, 1, 2, 91, 100);
        likely(x, 2, 1, 0, 1);
        likely(x, 2, 2, 49, 100);
        // Two of three: 3 * 0.49 * 0.3 + 0.343 = 0.784.
        likely(x, 2, 3, 98, 125);
        // Of four climbs at least two: 1 - 0.0081 - 4 * 0.7 * 0.027 = 0.9163.
        likely(x, 2, 4, 9163, 10000);
        HermitLadder y = Checks.on("cliff rungs 1 things 0;slips 9;tires : 4;");
        // 1 - 0.9^8 = 0.56953279.
        likely(y, 1, 8, 56953279, 100000000);
        // A slip tires as a climb does: then a rest is needed.
        HermitLadder z = Checks.on("cliff rungs 1 things 0;slips 5;pilgrim at 0 strength 1;");
        likely(z, 1, 1, 1, 2);
        likely(z, 1, 2, 1, 2);
        likely(z, 1, 3, 3, 4);
        HermitLadder w = Checks.on("cliff rungs 1 things 0;slips 10;");
        likely(w, 1, 8, 0, 1);
        HermitLadder v = Checks.on("cliff rungs 1 things 1;slips 1;hole 1 bars 0;pilgrim at 0 strength 4 has 0;");
        likely(v, 1, 1, 0, 1);
        likely(v, 1, 2, 9, 10);
        // Slips are for climbs alone.
        HermitLadder u = Checks.on("cliff rungs 1 things 0;slips 9;pilgrim at 1 strength 0;");
        likely(u, 0, 1, 1, 1);
        due("no such rung", x.chance(3, 9, 0), -2);
        due("no such rung", x.chance(-1, 0, 0), -2);
        due("no such what", x.chance(0, 9, 2), -2);
        due("no such what", x.chance(0, 9, -1), -2);
        due("n", x.chance(0, 9, 0), -3);
        due("n", x.chance(0, -1, 1), -3);
        due("climbs that are done don't slip", w.act(1), 1);
    }

    private static void best() {
        HermitLadder x = Checks.on("cliff rungs 2 things 1;slips 5;hole 1 bars 0;pilgrim at 0 strength 4 has 0;");
        due("he is there", x.best(0, 3), -1);
        due("no deed left", x.best(1, 0), -1);
        due("too few", x.best(1, 1), -1);
        due("let fall", x.best(1, 2), 10);
        x.act(10);
        due("climb", x.best(1, 1), 1);
        due("climb", x.best(2, 4), 1);
        due("it is never so", Checks.on("cliff rungs 1 things 0;slips 10;").best(1, 8), -1);
        due("of like ones the first", Checks.on("cliff rungs 1 things 0;").best(1, 2), 0);
        due("down", Checks.on("cliff rungs 1 things 0;pilgrim at 1 strength 0;").best(0, 1), 2);
        due("no such rung", x.best(3, 9), -2);
        due("n", x.best(0, 9), -3);
        due("n", x.best(0, -1), -3);
        // Twice as likely with a rest ahead, which the law asks for.
        HermitLadder y = Checks.on("cliff rungs 1 things 0;slips 5;may : strength > 1;tires : strength - 1;pilgrim at 0 strength 2;");
        due("climb, rest, climb and rest, climb, climb are alike", y.best(1, 3), 0);
        due("for two deeds", y.best(1, 2), 0);
        due("for one deed", y.best(1, 1), 1);
        due("nothing was done", y.count(6), 0);
    }
}
