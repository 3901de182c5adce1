/** Promises 35 to 40: trays, images, counts. */
public final class TraysImagesTest {
    private static final Checks CHECKS = new Checks("TraysImagesTest");

    public static void main(String[] args) {
        numbers();
        writes();
        lists();
        images();
        counts();
        CHECKS.end();
    }

    private static void due(String call, long got, long want) {
        CHECKS.due(call, got, want);
    }

    private static void numbers() {
        HermitLadder x = new HermitLadder();
        due("missing at first", x.write(0, 0, 1), -6);
        due("no such tray", x.numbers(4, 0, 1), -2);
        due("no such tray", x.numbers(-1, 0, 1), -2);
        due("no such sort", x.numbers(0, 4, 41), -2);
        due("no such sort", x.numbers(0, -1, 1), -2);
        due("too many", x.numbers(0, 0, 41), -3);
        due("below 0", x.numbers(0, 0, -1), -3);
        due("still missing", x.perform(0), -6);
        due("forty", x.numbers(0, 0, 40), 0);
        due("the last", x.write(0, 39, 5), 5);
        due("refused", x.numbers(0, 0, 41), -3);
        due("and the tray stays", x.judge(0, 0), 39);
        due("in place of another one", x.numbers(0, 1, 40), 0);
        due("all are 0", x.judge(0, 0), -1);
        due("none", x.numbers(3, 3, 0), 0);
        due("it is not missing", x.perform(3), 0);
    }

    private static void writes() {
        HermitLadder x = new HermitLadder();
        for (int sort = 0; sort < 4; sort++) {
            x.numbers(sort, sort, 2);
        }
        long v = 0x7edcba98f6548180L;
        due("8 bits", x.write(0, 1, v), (byte) 0x80);
        due("16 bits", x.write(1, 1, v), (short) 0x8180);
        due("32 bits", x.write(2, 1, v), 0xf6548180);
        due("64 bits", x.write(3, 1, v), v);
        due("8 bits: 127", x.write(0, 0, 127), 127);
        due("8 bits: 128", x.write(0, 0, 128), -128);
        due("8 bits: 257", x.write(0, 0, 257), 1);
        due("as it is there", x.judge(0, 2), 1);
        due("NONE", x.write(0, 0, -1), -1);
        due("no such tray", x.write(4, 0, 0), -2);
        due("no such tray", x.write(-1, 0, 0), -2);
        due("no such number", x.write(0, 2, 0), -7);
        due("no such number", x.write(0, -1, 0), -7);
        due("no such number", x.write(3, Integer.MAX_VALUE, 0), -7);
    }

    private static void lists() {
        HermitLadder x = Checks.on("cliff rungs 2 things 2;hole 1 bars 0 gives 1;pilgrim at 0 strength 4 has 0;");
        due("no such tray", x.lists(4, 0, 9), -2);
        due("no such rung goes ahead of a missing tray", x.lists(0, 3, 9), -2);
        due("missing", x.lists(0, 0, 9), -6);
        x.numbers(0, 0, 6);
        x.write(0, 4, 99);
        due("others are in the set", x.lists(0, 0, 4), -3);
        due("there is none", x.lists(0, 2, 1), -5);
        due("all of them", x.lists(0, 2, 2), 4);
        due("the rest stays", x.judge(0, 0), 4);
        due("he comes there", x.judge(0, 2), 2);
        due("with it", x.judge(0, 3), 2);
        x.numbers(1, 3, 2);
        due("as far as it has places", x.lists(1, 2, 2), 2);
        due("the first of them", x.judge(1, 2), 1);
        x.numbers(2, 3, 0);
        due("no places", x.lists(2, 2, 2), 0);
        due("no deeds", x.lists(0, 0, 1), 0);
        due("nothing was done", x.count(6), 0);
    }

    private static void images() {
        HermitLadder x = Checks.on("cliff rungs 3 things 2;hole 1 bars 1 rough 3;tires : strength - rough;may : strength > 1;"
            + "wind 4;slips 5;pilgrim at 0 strength 4 has 0;");
        due("none was made", x.restore(0), -5);
        due("none such", x.restore(2), -2);
        due("none such", x.image(2), -2);
        due("none such", x.image(-1), -2);
        x.act(1);
        x.wind(6);
        due("made", x.image(1), 0);
        due("making one changes nothing", x.count(7), 2);
        x.act(0);
        x.numbers(0, 0, 3);
        Checks.tell(x, "cliff rungs 8 things 6;hole 1 gives 5;");
        x.act(1);
        x.image(0);
        Checks.feed(x, "twenty bytes or more of it");
        due("as it was", x.restore(1), 0);
        int[] wanted = {3, 2, 1, 1, 1, 6, 1, 0, 40, 7};
        for (int what = 0; what < wanted.length; what++) {
            due("as it was: count(" + what + ")", x.count(what), wanted[what]);
        }
        due("bars", x.hole(1, 0), 2);
        due("gives", x.hole(1, 1), 0);
        due("rough", x.hole(1, 2), 3);
        due("the law may", x.why(1), 4);
        x.act(0);
        due("the law tires", x.by(1, 2), 2);
        due("slips", x.chance(2, 1, 1), 2);
        due("trays stay", x.judge(0, 0), -1);
        due("only what came behind", x.undo(1), 0);
        due("no more", x.undo(1), -3);
        due("the other one", x.restore(0), 0);
        due("its rungs", x.count(0), 8);
        due("its rung", x.count(2), 1);
        due("its law", x.by(1, 2), 2);
        due("no slips", x.chance(2, 1, 1), 1);
        due("again", x.restore(1), 0);
        due("as it was", x.count(4), 1);
        x.image(1);
        x.image(0);
        x.restore(1);
        due("made anew", x.count(0), 3);
    }

    private static void counts() {
        HermitLadder x = Checks.on("cliff rungs 5 things 4;wind 7;pilgrim at 2 strength 3 has 1 has 3;");
        Checks.feed(x, "x");
        x.act(0);
        x.habit(2);
        int[] wanted = {5, 4, 4, 10, 2, 7, 3, 2, 20, 3};
        for (int what = 0; what < wanted.length; what++) {
            due("count(" + what + ")", x.count(what), wanted[what]);
        }
        due("count(10)", x.count(10), -1);
        due("count(-1)", x.count(-1), -1);
    }
}
