/** Promises 24 to 26: where one comes by habit. */
public final class HabitTest {
    private static final Checks CHECKS = new Checks("HabitTest");

    public static void main(String[] args) {
        HermitLadder x = Checks.on("cliff rungs 3 things 2;hole 1 bars 1;hole 3 bars 0;pilgrim at 0 strength 1 has 0 has 1;");
        // Thing 1 falls, climb (0), rest (1), climb? rung 2, thing 0 falls, rest, climb, rests.
        int[] rungs = {0, 0, 1, 1, 2, 2, 2, 3, 3, 3, 3, 3, 3};
        for (int n = 0; n < rungs.length; n++) {
            CHECKS.due("lies(" + n + ")", x.lies(n), rungs[n]);
        }
        CHECKS.due("lies(99999)", x.lies(99999), 3);
        CHECKS.due("lies(100000)", x.lies(100000), -3);
        CHECKS.due("lies(-1)", x.lies(-1), -3);
        CHECKS.due("round(0)", x.round(0), 11);
        CHECKS.due("round(1)", x.round(1), 1);
        CHECKS.due("round(2)", x.round(2), -2);
        CHECKS.due("round(-1)", x.round(-1), -2);
        CHECKS.due("when(0)", x.when(0), 0);
        CHECKS.due("when(1)", x.when(1), 2);
        CHECKS.due("when(2)", x.when(2), 4);
        CHECKS.due("when(3)", x.when(3), 7);
        CHECKS.due("when(4)", x.when(4), -2);
        CHECKS.due("when(-1)", x.when(-1), -2);
        CHECKS.due("nothing was done", x.count(6), 0);
        x.habit(11);
        CHECKS.due("it has come round", x.round(0), 0);
        CHECKS.due("never down again", x.when(2), -1);
        CHECKS.due("he is there", x.when(3), 0);
        HermitLadder y = Checks.on("cliff rungs 2 things 0;may : rung = 1;pilgrim at 0 strength 0;");
        CHECKS.due("never", y.when(2), -1);
        CHECKS.due("lies", y.lies(5000), 1);
        CHECKS.due("round", y.round(0), 5);
        CHECKS.due("round of none", new HermitLadder().round(0), 2);
        CHECKS.end();
    }
}
