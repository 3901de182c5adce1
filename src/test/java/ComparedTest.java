import java.util.Random;

/** Drawn runs of calls: the class must answer each as the plain model does. */
public final class ComparedTest {
    private static final Checks CHECKS = new Checks("ComparedTest");

    private final Random random;
    private final HermitLadder x = new HermitLadder();
    private final Model m = new Model();
    private final StringBuilder log = new StringBuilder();

    private ComparedTest(long seed) {
        // Small seeds in a row draw much alike at first.
        random = new Random(seed * 0x9E3779B97F4A7C15L);
    }

    public static void main(String[] args) {
        int runs = args.length > 0 ? Integer.parseInt(args[0]) : 700;
        for (int seed = 1; seed <= runs && CHECKS.wrong() == 0; seed++) {
            ComparedTest run = new ComparedTest(seed);
            run.go();
            if (CHECKS.wrong() != 0) {
                System.out.println("seed " + seed + ":" + run.log);
            }
        }
        CHECKS.end();
    }

    private int below(int n) {
        return random.nextInt(n);
    }

    private boolean seldom(int oneIn) {
        return below(oneIn) == 0;
    }

    private void same(String call, long got, long want) {
        log.append('\n').append(call).append(" = ").append(got);
        CHECKS.due(call, got, want);
    }

    private void go() {
        int calls = 0;
        while (calls < 450 && CHECKS.wrong() == 0) {
            if (calls == 0 ? !seldom(5) : seldom(40)) {
                tellCliff();
            }
            callOnce();
            calls++;
        }
    }

    // ---- texts

    private void tellCliff() {
        String text = Texts.drawn(random);
        for (int i = 0; i < 3 && seldom(5); i++) {
            text = Texts.broken(random, text);
        }
        text = text.substring(0, Math.min(text.length(), 880));
        for (int from = 0; from < text.length(); from += 20) {
            int[] v = Checks.twenty(text, from);
            same("feed", x.feed(v[0], v[1], v[2], v[3], v[4]), m.feed(v));
        }
        int n = seldom(10) ? below(text.length() + 30) - 5 : text.length();
        same("cliff(" + n + ") of " + text, x.cliff(n), m.cliff(n));
        same("fault(0)", x.fault(0), m.fault(0));
        same("fault(1)", x.fault(1), m.fault(1));
        for (int rung = 0; rung <= 8; rung++) {
            for (int what = 0; what < 3; what++) {
                same("hole(" + rung + ", " + what + ")", x.hole(rung, what), m.hole(rung, what));
            }
        }
    }

    // ---- arguments, now and then out of their bounds

    private int odd() {
        int[] odds = {-1, -2, 9, 10, 30, 64, 100, 100000, Integer.MIN_VALUE, Integer.MAX_VALUE};
        return odds[below(odds.length)];
    }

    private int upTo(int greatest) {
        return seldom(25) ? odd() : below(greatest + 1);
    }

    private int rung() {
        return upTo(x.count(0));
    }

    private int set() {
        int all = (1 << x.count(1)) - 1;
        return seldom(25) ? odd() : below(64) & below(64) & all;
    }

    private int tray() {
        return seldom(30) ? odd() : below(4);
    }

    private int deed() {
        int k = below(4);
        return k == 0 ? upTo(2) : k == 1 ? 10 + upTo(x.count(1)) : k == 2 ? 20 + upTo(x.count(1)) : upTo(39);
    }

    // ---- calls

    private void callOnce() {
        int a = rung();
        int b = set();
        int t = tray();
        switch (below(34)) {
            case 0: same("why", x.why(a = deed()), m.why(a)); break;
            case 1: allBy(deed()); break;
            case 2: case 3: case 4:
                same("act(" + (a = deed()) + ")", x.act(a), m.act(a));
                break;
            case 5: same("wind(" + (a = upTo(9)) + ")", x.wind(a), m.wind(a)); break;
            case 6: same("habit(" + (a = seldom(3) ? upTo(99) : upTo(4)) + ")", x.habit(a), m.habit(a)); break;
            case 7: same("undo(" + (a = seldom(3) ? upTo(10) : upTo(2)) + ")", x.undo(a), m.undo(a)); break;
            case 8: deedTray(t); break;
            case 9: same("perform(" + t + ")", x.perform(t), m.perform(t)); break;
            case 10: yearly(); break;
            case 11: same("soonest(" + a + ", " + b + ")", x.soonest(a, b), m.soonest(a, b)); break;
            case 12: ways(a, b); break;
            case 13: rows(a, b); break;
            case 14: same("highest(" + b + ")", x.highest(b), m.highest(b)); break;
            case 15: twice(a); break;
            case 16: same("loses(" + a + ")", x.loses(a), m.loses(a)); break;
            case 17: same("stands()", x.stands(), m.stands()); break;
            case 18: same("lands", x.lands(a, b = upTo(5)), m.lands(a, b)); break;
            case 19: shares(a, b); break;
            case 20: same("lies(" + (b = seldom(3) ? upTo(99999) : upTo(20)) + ")", x.lies(b), m.lies(b, true)); break;
            case 21: same("round(" + (b = upTo(1)) + ")", x.round(b), m.round(b)); break;
            case 22: same("when(" + a + ")", x.when(a), m.when(a)); break;
            case 23: case 24: seen(t); break;
            case 25: case 26: tired(t); break;
            case 27: same("withstands(" + a + ")", x.withstands(a), m.withstands(a)); break;
            case 28: case 29: chances(a); break;
            case 30: lists(t, a, b); break;
            case 31: same("image(" + (a = upTo(1)) + ")", x.image(a), m.image(a)); break;
            case 32: restored(); break;
            default: counts(); break;
        }
    }

    private void allBy(int deed) {
        int what = upTo(2);
        same("by(" + deed + ", " + what + ")", x.by(deed, what), m.by(deed, what));
    }

    private void deedTray(int t) {
        int n = below(9);
        same("numbers", x.numbers(t, n % 4, n), m.numbers(t, n % 4, n));
        for (int i = 0; i < n; i++) {
            long v = seldom(30) ? random.nextLong() : deed();
            same("write(" + t + ", " + i + ", " + v + ")", x.write(t, i, v), m.write(t, i, v));
        }
        for (int what = -1; what <= 4; what++) {
            same("judge(" + t + ", " + what + ")", x.judge(t, what), m.judge(t, what));
        }
    }

    private void yearly() {
        int seed = random.nextInt();
        int times = upTo(40);
        same("year(" + seed + ", " + times + ")", x.year(seed, times), m.year(seed, times));
    }

    private void ways(int a, int b) {
        for (int i = -1; i < 12; i++) {
            same("way(" + a + ", " + b + ", " + i + ")", x.way(a, b, i), m.way(a, b, i));
        }
    }

    private void rows(int a, int b) {
        int n = x.count(1) > 3 ? upTo(4) : upTo(10);
        same("rows(" + a + ", " + b + ", " + n + ")", x.rows(a, b, n), m.rows(a, b, n));
    }

    private void twice(int a) {
        for (int what = 0; what <= 2; what++) {
            same("most(" + a + ", " + what + ")", x.most(a, what), m.most(a, what));
        }
    }

    private void shares(int a, int b) {
        int[] whats = {0, 10, 11, 12, 13, 14, 15, 16, upTo(20)};
        for (int what : whats) {
            same("shares(" + a + ", " + b + ", " + what + ")", x.shares(a, b, what), m.shares(a, b, what));
        }
    }

    private void seen(int t) {
        int most = x.count(1) < 2 ? 6 : x.count(1) < 4 ? 4 : 3;
        int n = seldom(12) ? 7 * below(2) : 1 + below(most);
        same("numbers", x.numbers(t, 0, n), m.numbers(t, 0, n));
        int has = Integer.bitCount(x.count(3));
        for (int i = 0; i < n; i++) {
            int v = seldom(60) ? 7 : seldom(3) ? -1 : Math.max(-1, has + below(3) - 1);
            has = v >= 0 ? v : has;
            same("write(" + t + ", " + i + ", " + v + ")", x.write(t, i, v), m.write(t, i, v));
        }
        for (int k = 0; k < 4; k++) {
            int i = below(n + 2) - 1;
            switch (below(3)) {
                case 0: same("seen(" + t + ")", x.seen(t), m.seen(t)); break;
                case 1: same("surely(" + t + ")", x.surely(t), m.surely(t)); break;
                default: same("seenBy(" + t + ", " + i + ")", x.seenBy(t, i), m.seenBy(t, i)); break;
            }
        }
    }

    private void tired(int t) {
        int n = seldom(12) ? 9 * below(2) : 1 + below(8);
        same("numbers", x.numbers(t, 1, n), m.numbers(t, 1, n));
        long[] told = m.strengths(below(10), n);
        for (int i = 0; i < n; i++) {
            long v = seldom(60) ? below(6) : told[i];
            same("write(" + t + ", " + i + ", " + v + ")", x.write(t, i, v), m.write(t, i, v));
        }
        same("winds(" + t + ")", x.winds(t), m.winds(t));
        same("attempt(" + t + ")", x.attempt(t), m.attempt(t));
    }

    private void chances(int a) {
        int n = x.count(1) > 3 ? upTo(4) : upTo(8);
        for (int what = 0; what <= 2; what++) {
            same("chance(" + a + ", " + n + ", " + what + ")", x.chance(a, n, what), m.chance(a, n, what));
        }
        same("best(" + a + ", " + n + ")", x.best(a, n), m.best(a, n));
    }

    private void lists(int t, int a, int b) {
        int n = upTo(12);
        int sort = upTo(3);
        same("numbers(" + t + ", " + sort + ", " + n + ")", x.numbers(t, sort, n), m.numbers(t, sort, n));
        same("lists(" + t + ", " + a + ", " + b + ")", x.lists(t, a, b), m.lists(t, a, b));
        for (int what = 0; what < 4; what++) {
            same("judge(" + t + ", " + what + ")", x.judge(t, what), m.judge(t, what));
        }
    }

    private void restored() {
        int i = upTo(1);
        same("restore(" + i + ")", x.restore(i), m.restore(i));
    }

    private void counts() {
        for (int what = -1; what <= 10; what++) {
            same("count(" + what + ")", x.count(what), m.count(what));
        }
    }
}
