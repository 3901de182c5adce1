/** Promises 8 to 14: deeds, wind, habit, undoing, told deeds, years. */
public final class DeedsTest {
    private static final Checks CHECKS = new Checks("DeedsTest");

    public static void main(String[] args) {
        acts();
        winds();
        habits();
        undoing();
        judging();
        performing();
        years();
        CHECKS.end();
    }

    private static void due(String call, long got, long want) {
        CHECKS.due(call, got, want);
    }

    private static void is(HermitLadder x, String when, int rung, int things, int strength) {
        due(when + ": the rung", x.count(2), rung);
        due(when + ": the things", x.count(3), things);
        due(when + ": the strength", x.count(4), strength);
    }

    private static void acts() {
        HermitLadder x = Checks.on("cliff rungs 3 things 2;hole 1 gives 1 bars 0;hole 3 bars 1;"
            + "pilgrim at 0 strength 2 has 0;");
        due("barred", x.act(1), -13);
        due("no such thing", x.act(12), -11);
        due("no such deed", x.act(30), -11);
        due("hasn't", x.act(11), -12);
        due("below the foot", x.act(2), -12);
        due("refused deeds can't be undone", x.count(7), 0);
        due("let fall", x.act(10), 0);
        due("climbed", x.act(1), 1);
        is(x, "climbed", 1, 0, 1);
        due("taken", x.act(21), 1);
        is(x, "taken", 1, 2, 1);
        due("climbed", x.act(1), 2);
        due("barred above", x.act(1), -13);
        x.act(11);
        due("the law", x.act(1), -14);
        due("rested", x.act(0), 2);
        is(x, "rested", 2, 0, 1);
        due("down", x.act(2), 1);
        is(x, "down", 1, 0, 1);
        due("deeds", x.count(6), 7);
        HermitLadder y = new HermitLadder();
        due("rest at full strength", y.act(0), 0);
        is(y, "rest at full strength", 0, 0, 4);
        due("it is a deed", y.count(6), 1);
        due("it can be undone", y.count(7), 1);
    }

    private static void winds() {
        HermitLadder x = Checks.on("cliff rungs 1 things 0;wind 2;tires : wind;");
        due("wind(4)", x.wind(4), 2);
        due("it is 4", x.count(5), 4);
        due("wind(3)", x.wind(3), 4);
        due("laws by the new wind", x.by(1, 2), 3);
        due("wind(10)", x.wind(10), -11);
        due("wind(-1)", x.wind(-1), -11);
        due("it stays", x.count(5), 3);
        due("no deed", x.count(6), 0);
        due("undoable", x.count(7), 2);
        due("undo(1)", x.undo(1), 1);
        due("the wind before", x.count(5), 4);
        due("laws by that wind", x.by(1, 2), 4);
    }

    private static void habits() {
        HermitLadder x = Checks.on("cliff rungs 3 things 3;hole 1 bars 2 bars 1;pilgrim at 0 strength 1 has 0 has 1 has 2;");
        due("habit(0)", x.habit(0), -3);
        due("habit(100)", x.habit(100), -3);
        due("the least barred falls", x.habit(1), 0);
        is(x, "the least barred falls", 0, 5, 1);
        due("then the other, then a climb", x.habit(2), 1);
        is(x, "then a climb", 1, 1, 0);
        due("rest, climb, rest, climb, rest", x.habit(5), 3);
        is(x, "on the top", 3, 1, 1);
        due("deeds", x.count(6), 8);
        due("habit(99)", x.habit(99), 3);
        is(x, "rested on the top", 3, 1, 4);
        due("each call as a whole", x.count(7), 4);
        x.undo(2);
        is(x, "undone", 1, 1, 0);
        due("deeds undone", x.count(6), 3);
        HermitLadder y = Checks.on("cliff rungs 2 things 1;may : 1 = 2;hole 1 bars 0;pilgrim at 0 strength 3 has 0;");
        due("what is barred falls, whatever the law", y.habit(1), 0);
        is(y, "fallen", 0, 0, 3);
        y.habit(1);
        is(y, "else rest", 0, 0, 4);
    }

    private static void undoing() {
        HermitLadder x = Checks.on("cliff rungs 8 things 1;pilgrim at 0 strength 4 has 0;");
        due("nothing to undo", x.undo(1), -3);
        for (int i = 0; i < 6; i++) {
            x.act(1);
            x.act(0);
        }
        due("ten at most", x.count(7), 10);
        due("undo(0)", x.undo(0), -3);
        due("undo(11)", x.undo(11), -3);
        due("undo(-1)", x.undo(-1), -3);
        due("undo(3)", x.undo(3), 7);
        is(x, "nine deeds", 5, 1, 3);
        due("nine deeds", x.count(6), 9);
        due("undo(8)", x.undo(8), -3);
        due("undo(7)", x.undo(7), 0);
        is(x, "the eldest are forgotten", 1, 1, 4);
        due("two deeds", x.count(6), 2);
        x.wind(7);
        x.act(10);
        due("undo(2)", x.undo(2), 0);
        due("the wind before", x.count(5), 0);
        is(x, "before the fall", 1, 1, 4);
    }

    private static void judging() {
        HermitLadder x = Checks.on("cliff rungs 3 things 2;hole 0 gives 1;hole 2 bars 0;tires : strength - wind;"
            + "may : strength > wind;pilgrim at 0 strength 4 has 0;wind 1;");
        due("missing", x.judge(0, 0), -6);
        due("no such tray", x.judge(4, 0), -2);
        due("no such what", x.judge(0, 4), -2);
        due("no such what", x.judge(0, -1), -2);
        Checks.fill(x, 0, 21, 1, 1, 0);
        due("the first that can't be", x.judge(0, 0), 2);
        due("why", x.judge(0, 1), 3);
        due("the rung then", x.judge(0, 2), 1);
        due("things then", x.judge(0, 3), 3);
        Checks.fill(x, 1, 1, 10, 33, 1);
        due("by the wind told there", x.judge(1, 0), 3);
        due("by the wind told there: the law", x.judge(1, 1), 4);
        due("by the wind told there: the rung", x.judge(1, 2), 1);
        Checks.fill(x, 1, 1, 10, 39, 30, 1);
        due("all can be", x.judge(1, 0), -1);
        due("all can be: why", x.judge(1, 1), 0);
        due("all can be: the rung", x.judge(1, 2), 2);
        due("all can be: things", x.judge(1, 3), 0);
        due("the wind is as it was", x.count(5), 1);
        due("the laws are as they were", x.by(1, 2), 3);
        long[] none = {40, 29, -1, 3, 1L << 40, 12, 22, Long.MIN_VALUE, (1L << 32) + 1};
        for (long v : none) {
            Checks.fill(x, 2, 0, v);
            due("no such deed: " + v, x.judge(2, 0), 1);
            due("no such deed: " + v, x.judge(2, 1), 1);
        }
        x.numbers(3, 0, 0);
        due("none told", x.judge(3, 0), -1);
        due("none told: the rung", x.judge(3, 2), 0);
        due("none told: things", x.judge(3, 3), 1);
        due("nothing was done", x.count(6) + x.count(7), 0);
    }

    private static void performing() {
        HermitLadder x = Checks.on("cliff rungs 3 things 1;pilgrim at 0 strength 3 has 0;");
        due("missing", x.perform(1), -6);
        due("no such tray", x.perform(-1), -2);
        Checks.fill(x, 0, 1, 35, 1, 20, 1);
        due("till one can't be", x.perform(0), 3);
        is(x, "then", 2, 1, 1);
        due("the wind then", x.count(5), 5);
        due("a wind is no deed", x.count(6), 2);
        due("undone as a whole", x.undo(1), 0);
        is(x, "undone", 0, 1, 3);
        due("the wind undone", x.count(5), 0);
        due("the deeds undone", x.count(6), 0);
        Checks.fill(x, 0, 2, 1);
        due("none can be", x.perform(0), 0);
        due("a call that did none can't be undone", x.count(7), 0);
        Checks.fill(x, 0, 36);
        due("a wind alone", x.perform(0), 1);
        due("it can be undone", x.count(7), 1);
    }

    private static void years() {
        HermitLadder x = Checks.on("cliff rungs 4 things 3;hole 0 gives 0 gives 1 gives 2;hole 1 gives 2;hole 2 bars 1;"
            + "pilgrim at 0 strength 3 has 1;");
        due("no times", x.year(1, 0), -3);
        due("too many", x.year(1, 41), -3);
        int[] seeds = {1, 0, -7, 123456789, Integer.MIN_VALUE, 99, 2026};
        for (int seed : seeds) {
            x.image(0);
            int[] deeds = drawn(seed, 40);
            int done = 0;
            for (int deed : deeds) {
                if (x.why(deed) == 0) {
                    x.act(deed);
                    done++;
                }
            }
            int there = x.count(2) * 1000 + x.count(3) * 10 + x.count(4);
            x.restore(0);
            due("year(" + seed + ", 40)", x.year(seed, 40), done);
            due("there", x.count(2) * 1000 + x.count(3) * 10 + x.count(4), there);
            due("deeds", x.count(6), done);
            due("as one call", x.count(7), done > 0 ? 1 : 0);
            x.restore(0);
        }
        // By the seed 1 the draws are 16838, 38526, 10113: 6 modulo 8, 0 modulo 6, 1 modulo 8.
        HermitLadder y = Checks.on("cliff rungs 1 things 6;hole 0 gives 0;");
        due("year(1, 1)", y.year(1, 1), 1);
        due("thing 0 is taken", y.count(3), 1);
        y.undo(1);
        due("year(1, 2)", y.year(1, 2), 2);
        due("then a climb", y.count(2), 1);
        HermitLadder z = new HermitLadder();
        due("nothing there to take", z.year(1, 1), 0);
        due("nothing to undo", z.count(7), 0);
    }

    private static int[] drawn(int seed, int times) {
        int x = seed;
        int[] deeds = new int[times];
        for (int i = 0; i < times; i++) {
            x = 1103515245 * x + 12345;
            switch ((x >>> 16) % 8) {
                case 0: deeds[i] = 0; break;
                case 1: case 2: case 3: deeds[i] = 1; break;
                case 4: deeds[i] = 2; break;
                case 5:
                    x = 1103515245 * x + 12345;
                    deeds[i] = 10 + (x >>> 16) % 6;
                    break;
                default:
                    x = 1103515245 * x + 12345;
                    deeds[i] = 20 + (x >>> 16) % 6;
                    break;
            }
        }
        return deeds;
    }
}
