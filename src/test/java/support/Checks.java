/** What the tests have in common: counting wrong answers, and telling texts. */
final class Checks {
    private final String name;
    private int wrong = 0;
    private int made = 0;

    Checks(String name) {
        this.name = name;
    }

    void due(String call, long got, long want) {
        made++;
        if (got != want) {
            wrong++;
            System.out.println(name + ": " + call + " answered " + got + ", due is " + want);
        }
    }

    void holds(String what, boolean so) {
        due(what, so ? 1 : 0, 1);
    }

    int wrong() {
        return wrong;
    }

    /** Tells how it went, and ends with exit code 1 if an answer was wrong. */
    void end() {
        System.out.println(name + ": " + made + " answers, " + wrong + " wrong");
        if (wrong != 0) {
            System.exit(1);
        }
    }

    /** Five ints for feed(): twenty bytes of a text from a place on, blanks behind its end. */
    static int[] twenty(String text, int from) {
        int[] ints = new int[5];
        for (int i = 0; i < 20; i++) {
            int c = from + i < text.length() ? text.charAt(from + i) & 255 : ' ';
            ints[i / 4] |= c << 24 - i % 4 * 8;
        }
        return ints;
    }

    static void feed(HermitLadder x, String text) {
        for (int from = 0; from < text.length(); from += 20) {
            int[] v = twenty(text, from);
            x.feed(v[0], v[1], v[2], v[3], v[4]);
        }
    }

    static int tell(HermitLadder x, String text) {
        feed(x, text);
        return x.cliff(text.length());
    }

    /** A new object with a cliff that must be without fault. */
    static HermitLadder on(String text) {
        HermitLadder x = new HermitLadder();
        int lines = tell(x, text);
        if (lines < 1) {
            System.out.println("the test's text is at fault: " + lines + " at " + x.fault(1) + " in " + text);
            System.exit(1);
        }
        return x;
    }

    static void fill(HermitLadder x, int tray, long... numbers) {
        x.numbers(tray, 3, numbers.length);
        for (int i = 0; i < numbers.length; i++) {
            x.write(tray, i, numbers[i]);
        }
    }
}
