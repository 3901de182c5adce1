/** Promises 15 to 23: coming to a rung, what can be had there, where things fall. */
public final class ComingTest {
    private static final Checks CHECKS = new Checks("ComingTest");

    public static void main(String[] args) {
        soonestAndWay();
        firstByNumbers();
        rows();
        highest();
        most();
        loses();
        stands();
        lands();
        shares();
        CHECKS.end();
    }

    private static void due(String call, long got, long want) {
        CHECKS.due(call, got, want);
    }

    private static void comes(HermitLadder x, int rung, int set, int... deeds) {
        String where = "to " + rung + " with " + set;
        due("soonest " + where, x.soonest(rung, set), deeds.length);
        for (int i = 0; i < deeds.length; i++) {
            due("way " + where + ", deed " + i, x.way(rung, set, i), deeds[i]);
        }
        due("way " + where + ", no more", x.way(rung, set, deeds.length), -1);
        due("way " + where + ", far more", x.way(rung, set, Integer.MAX_VALUE), -1);
    }

    private static HermitLadder plain() {
        return Checks.on("cliff rungs 3 things 3;hole 0 gives 2;hole 1 bars 0 gives 1;hole 2 bars 2;"
            + "pilgrim at 0 strength 2 has 0;");
    }

    private static void soonestAndWay() {
        HermitLadder x = plain();
        comes(x, 0, 0);
        comes(x, 0, 1);
        comes(x, 0, 5, 22);
        comes(x, 1, 0, 10, 1);
        comes(x, 1, 2, 10, 1, 21);
        comes(x, 1, 6, 10, 22, 1, 21);
        comes(x, 2, 2, 10, 1, 21, 1);
        comes(x, 3, 2, 0, 10, 1, 21, 1, 1);
        due("barred for ever", x.soonest(2, 4), -1);
        due("barred for ever: way", x.way(2, 4, 0), -1);
        due("can't be had there", x.soonest(1, 1), -1);
        due("no such rung", x.soonest(4, 0), -2);
        due("no such rung", x.soonest(-1, 0), -2);
        due("no such rung goes first", x.soonest(4, 8), -2);
        due("others are in the set", x.soonest(0, 8), -3);
        due("others are in the set", x.soonest(0, -1), -3);
        due("way: no such rung", x.way(4, 8, -1), -2);
        due("way: others", x.way(0, 8, 0), -3);
        due("way: i below 0", x.way(2, 4, -1), -3);
        due("nothing was done", x.count(6), 0);
        x.act(10);
        comes(x, 1, 0, 1);
        x.undo(1);
        comes(x, 1, 0, 10, 1);
        x.wind(3);
        comes(x, 1, 0, 10, 1);
    }

    private static void firstByNumbers() {
        HermitLadder x = Checks.on("cliff rungs 1 things 2;hole 1 bars 0 bars 1;pilgrim at 0 strength 0 has 1 has 0;");
        comes(x, 1, 0, 0, 10, 11, 1);
        HermitLadder y = Checks.on("cliff rungs 2 things 2;hole 0 gives 0 gives 1;hole 1 gives 0 gives 1;hole 2 gives 0;"
            + "pilgrim at 0 strength 4;");
        comes(y, 2, 3, 1, 20, 21, 1);
        comes(y, 2, 1, 1, 1, 20);
    }

    private static void rows() {
        HermitLadder x = Checks.on("cliff rungs 1 things 1;hole 0 gives 0;may : 1 = 2;pilgrim at 0 strength 1;");
        // With rest always, and the thing either taken or let fall: two deeds each time.
        due("rows n 0", x.rows(0, 0, 0), 1);
        due("rows n 0 with a thing", x.rows(0, 1, 0), 0);
        due("rows n 1", x.rows(0, 0, 1), 2);
        due("rows n 1 with a thing", x.rows(0, 1, 1), 1);
        due("rows n 10", x.rows(0, 0, 10), 1024);
        due("rows n 10 with a thing", x.rows(0, 1, 10), 512);
        due("rows where he can't come", x.rows(1, 0, 10), 0);
        due("no such rung", x.rows(2, 9, 11), -2);
        due("the set", x.rows(0, 2, 0), -3);
        due("n", x.rows(0, 0, 11), -3);
        due("n", x.rows(0, 0, -1), -3);
        HermitLadder y = new HermitLadder();
        // At the foot: rest, climb; on the top: rest, down; the strength is four.
        due("rows there", y.rows(1, 0, 2), 2);
        due("rows back", y.rows(0, 0, 2), 2);
        HermitLadder z = Checks.on("cliff rungs 1 things 6;hole 0 gives 0 gives 1 gives 2 gives 3 gives 4 gives 5;may : 1 = 2;");
        // Rest, and each thing either taken or let fall: seven deeds each time.
        due("many rows", z.rows(0, 0, 10), 282475249L);
        HermitLadder w = Checks.on(givingAll().append("pilgrim at 4 strength 4;").toString());
        long all = 0;
        for (int rung = 0; rung <= 8; rung++) {
            all += w.rows(rung, 0, 10);
            due("rows to " + rung, w.rows(rung, 0, 10), drawnApart(rung, 10));
        }
        CHECKS.holds("more rows than an int holds", all > Integer.MAX_VALUE);
    }

    /** Nine rungs that give all, with seven deeds that stay on a rung; one climbs always. */
    private static StringBuilder givingAll() {
        StringBuilder all = new StringBuilder("cliff rungs 8 things 6;tires : strength - 1;may : 1 = 1;");
        for (int rung = 0; rung <= 8; rung++) {
            all.append("hole ").append(rung).append(" gives 0 gives 1 gives 2 gives 3 gives 4 gives 5;");
        }
        return all;
    }

    private static long drawnApart(int rung, int n) {
        long[] at = new long[11];
        at[5] = 1;
        for (int i = 0; i < n; i++) {
            long[] next = new long[11];
            for (int r = 1; r <= 9; r++) {
                next[r] = 7 * at[r] + at[r - 1] + at[r + 1];
            }
            at = next;
        }
        return at[rung + 1];
    }

    private static void highest() {
        HermitLadder x = plain();
        due("with nothing", x.highest(0), 3);
        due("with 0", x.highest(1), 0);
        due("with 1", x.highest(2), 3);
        due("with 2", x.highest(4), 1);
        due("with 1 and 2", x.highest(6), 1);
        due("not at all together", x.highest(3), -1);
        due("others", x.highest(8), -3);
        due("others", x.highest(-8), -3);
    }

    private static void most() {
        HermitLadder x = plain();
        due("most on 0", x.most(0, 0), 2);
        due("of like ones the least", x.most(0, 1), 5);
        due("most on 1", x.most(1, 0), 2);
        due("most on 1", x.most(1, 1), 6);
        due("most on 3", x.most(3, 0), 1);
        due("most on 3", x.most(3, 1), 2);
        due("no such rung", x.most(4, 0), -2);
        due("no such what", x.most(0, 2), -2);
        due("no such what", x.most(0, -1), -2);
        HermitLadder y = Checks.on("cliff rungs 2 things 1;may : rung = 1;");
        due("can't come there", y.most(2, 0), -1);
        due("can't come there", y.most(2, 1), -1);
        due("with nothing: how many", y.most(1, 0), 0);
        due("with nothing: the set", y.most(1, 1), 0);
    }

    private static void loses() {
        HermitLadder x = Checks.on("cliff rungs 2 things 3;hole 1 bars 0 bars 1;hole 2 gives 1;"
            + "pilgrim at 0 strength 4 has 0 has 1 has 2;");
        due("on 0", x.loses(0), 0);
        due("on 1", x.loses(1), 3);
        due("on 2 thing 1 is given again", x.loses(2), 1);
        due("no such rung", x.loses(3), -2);
        HermitLadder y = Checks.on("cliff rungs 1 things 1;may : 1 = 2;hole 1 bars 0;pilgrim at 0 strength 4 has 0;");
        due("can't come there", y.loses(1), 0);
    }

    private static void stands() {
        due("new", new HermitLadder().stands(), 10);
        due("one alone", Checks.on("cliff rungs 1 things 0;may : 1 = 2;").stands(), 1);
        due("as he rests", Checks.on("cliff rungs 1 things 0;may : 1 = 2;pilgrim at 0 strength 1;").stands(), 4);
        due("as he lets fall", Checks.on("cliff rungs 1 things 2;may : 1 = 2;pilgrim at 0 strength 4 has 0 has 1;").stands(), 4);
        due("all there are", Checks.on(givingAll().toString()).stands(), 9 * 64 * 5);
    }

    private static void lands() {
        HermitLadder x = Checks.on("cliff rungs 4 things 2;hole 3 bars 0;hole 2 gives 0;hole 0 bars 1;hole 4 bars 0;");
        due("next below", x.lands(2, 0), 1);
        due("behind what bars and what gives", x.lands(4, 0), 1);
        due("never where it was", x.lands(1, 1), -1);
        due("from the foot", x.lands(0, 0), -1);
        due("on none", x.lands(1, 1), -1);
        due("thing 1", x.lands(4, 1), 3);
        due("no such rung", x.lands(5, 0), -2);
        due("no such rung", x.lands(-1, 0), -2);
        due("no such thing", x.lands(4, 2), -2);
        due("no such thing", x.lands(4, -1), -2);
    }

    private static void shared(HermitLadder x, int rung, int set, int... rungs) {
        int landed = 0;
        for (int thing = 0; thing < rungs.length; thing++) {
            due("shares(" + rung + ", " + set + ", " + (10 + thing) + ")", x.shares(rung, set, 10 + thing), rungs[thing]);
            landed += rungs[thing] >= 0 ? 1 : 0;
        }
        due("shares(" + rung + ", " + set + ", 0)", x.shares(rung, set, 0), landed);
    }

    private static void shares() {
        HermitLadder x = Checks.on("cliff rungs 3 things 3;hole 1 bars 1 gives 2;hole 2 bars 1 bars 2;");
        // Things 1 and 2 can lie on the foot alone, thing 0 anywhere.
        shared(x, 3, 7, 1, 0, -1);
        shared(x, 3, 5, 1, -1, 0);
        shared(x, 3, 6, -1, 0, -1);
        shared(x, 3, 1, 0, -1, -1);
        shared(x, 1, 7, 0, -1, -1);
        shared(x, 0, 7, -1, -1, -1);
        shared(x, 3, 0, -1, -1, -1);
        due("no such rung", x.shares(4, 9, 0), -2);
        due("no such what", x.shares(3, 9, 1), -2);
        due("no such what", x.shares(3, 9, 9), -2);
        due("no such thing", x.shares(3, 9, 13), -2);
        due("no such what", x.shares(3, 9, -1), -2);
        due("others are in the set", x.shares(3, 8, 0), -3);
        due("others are in the set", x.shares(3, -1, 10), -3);
        HermitLadder y = Checks.on("cliff rungs 8 things 6;");
        shared(y, 8, 63, 0, 1, 2, 3, 4, 5);
        shared(y, 4, 63, 0, 1, 2, 3, -1, -1);
        HermitLadder z = Checks.on("cliff rungs 8 things 6;hole 0 bars 5;hole 1 bars 5;hole 2 bars 5 bars 4;hole 3 bars 5 bars 4;"
            + "hole 4 gives 5 bars 4;hole 5 gives 5 gives 4;hole 6 bars 4 bars 5;hole 7 bars 4;");
        shared(z, 8, 63, 0, 2, 3, 4, 1, 7);
    }
}
