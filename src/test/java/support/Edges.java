import java.lang.reflect.InvocationTargetException;
import java.lang.reflect.Method;
import java.util.HashMap;
import java.util.IdentityHashMap;
import java.util.Map;
import java.util.regex.Matcher;
import java.util.regex.Pattern;

/**
 * Tests of the document's sentences, one by one: each is named by its promise and its own words,
 * and told as calls with the answers that are due, as in "act(1) = 1; count(2) = 1".
 */
final class Edges {
    private static final int MOST_CALLS = 512;
    private static final Pattern CALL = Pattern.compile("(\\w+)\\(([^)]*)\\)(?: = (\\S+))?");
    private static final Map<String, Method> FACE = new HashMap<>();

    static {
        for (Method m : HermitLadder.class.getMethods()) {
            if (m.getDeclaringClass() == HermitLadder.class) {
                FACE.put(m.getName(), m);
            }
        }
    }

    private final Checks checks;
    private final Map<HermitLadder, Integer> used = new IdentityHashMap<>();
    private String sentence = null;
    private int looked = 0;

    Edges(String name) {
        checks = new Checks(name);
    }

    /** What is looked at from here on belongs to this sentence of the document. */
    void of(int promise, String words) {
        endSentence();
        sentence = "promise " + promise + ", \"" + words + "\"";
        looked = 0;
    }

    private void endSentence() {
        if (sentence != null && looked == 0) {
            checks.due(sentence + " has no test:", 0, 1);
        }
    }

    void due(String call, long got, long want) {
        looked++;
        checks.due(sentence + ": " + call, got, want);
    }

    /** Calls on a new object. */
    HermitLadder fresh(String... calls) {
        HermitLadder x = new HermitLadder();
        go(x, calls);
        return x;
    }

    /** Calls on a new object with a cliff that must be without fault. */
    HermitLadder on(String text, String... calls) {
        HermitLadder x = new HermitLadder();
        int lines = tell(x, text);
        if (lines < 1) {
            due("the test's own text is at fault, at " + x.fault(1) + ": " + text, lines, 1);
        }
        go(x, calls);
        return x;
    }

    int tell(HermitLadder x, String text) {
        feed(x, text);
        return x.cliff(text.length());
    }

    void feed(HermitLadder x, String text) {
        Checks.feed(x, text);
        used.merge(x, (text.length() + 19) / 20 + 1, Integer::sum);
    }

    void go(HermitLadder x, String... calls) {
        for (String row : calls) {
            for (String call : row.split(";")) {
                goOne(x, call.trim());
            }
        }
    }

    private void goOne(HermitLadder x, String call) {
        Matcher m = CALL.matcher(call);
        if (!m.matches()) {
            due("the test's own call can't be read: " + call, 0, 1);
            return;
        }
        String[] args = m.group(2).isBlank() ? new String[0] : m.group(2).split(",");
        long got = m.group(1).equals("fill") ? fill(x, args) : answer(x, m.group(1), args, call);
        if (m.group(3) != null) {
            due(m.group(1) + "(" + m.group(2) + ")", got, number(m.group(3)));
        }
    }

    /** A tray, then its numbers, of 64 bits each. */
    private long fill(HermitLadder x, String[] args) {
        int tray = (int) number(args[0]);
        count(x, args.length);
        x.numbers(tray, 3, args.length - 1);
        for (int i = 1; i < args.length; i++) {
            x.write(tray, i - 1, number(args[i]));
        }
        return 0;
    }

    private long answer(HermitLadder x, String name, String[] told, String call) {
        Method method = FACE.get(name);
        Object[] args = new Object[told.length];
        for (int i = 0; i < told.length; i++) {
            long v = number(told[i]);
            args[i] = method.getParameterTypes()[i] == long.class ? (Object) v : (Object) (int) v;
        }
        count(x, 1);
        try {
            return ((Number) method.invoke(x, args)).longValue();
        } catch (InvocationTargetException e) {
            due(call + " threw " + e.getCause(), 0, 1);
            return Long.MIN_VALUE + 1;
        } catch (IllegalAccessException e) {
            throw new IllegalStateException(e);
        }
    }

    /** What an object answers behind its 512th call is free, so no test may look at it. */
    private void count(HermitLadder x, int calls) {
        int all = used.merge(x, calls, Integer::sum);
        if (all > MOST_CALLS) {
            due("the test's own calls are too many", all, MOST_CALLS);
        }
    }

    private static long number(String told) {
        switch (told.trim()) {
            case "MIN": return Integer.MIN_VALUE;
            case "MAX": return Integer.MAX_VALUE;
            case "LMIN": return Long.MIN_VALUE;
            case "LMAX": return Long.MAX_VALUE;
            default: return Long.decode(told.trim());
        }
    }

    /** A text that is read, with so many lines. */
    HermitLadder good(String text, int lines) {
        HermitLadder x = new HermitLadder();
        due("cliff of " + text, tell(x, text), lines);
        due("fault(0) of " + text, x.fault(0), 0);
        due("fault(1) of " + text, x.fault(1), -1);
        return x;
    }

    void bad(String text, int kind, int place) {
        HermitLadder x = new HermitLadder();
        due("cliff of " + text, tell(x, text), -30 - kind);
        due("fault(0) of " + text, x.fault(0), kind);
        due("fault(1) of " + text, x.fault(1), place);
    }

    void end() {
        endSentence();
        checks.end();
    }
}
