import java.lang.reflect.InvocationTargetException;
import java.lang.reflect.Method;
import java.util.ArrayList;
import java.util.Comparator;
import java.util.List;
import java.util.Random;

/** LANGUAGE.md, rule 7: no call ever throws, whatever its arguments, in whatever state; and rule 13. */
public final class NeverThrowsTest {
    private static final Checks CHECKS = new Checks("NeverThrowsTest");
    private static final long[] ODD = {
        Long.MIN_VALUE, Long.MAX_VALUE, Integer.MIN_VALUE, Integer.MAX_VALUE, Integer.MIN_VALUE + 1L, -1000, -40, -31,
        -10, -2, -1, 0, 1, 2, 3, 4, 5, 6, 7, 8, 9, 10, 11, 15, 16, 19, 20, 25, 26, 29, 30, 39, 40, 41, 63, 64, 99, 100,
        255, 256, 900, 901, 65535, 99999, 100000,
    };

    public static void main(String[] args) throws IllegalAccessException {
        List<Method> face = new ArrayList<>();
        for (Method m : HermitLadder.class.getMethods()) {
            if (m.getDeclaringClass() == HermitLadder.class) {
                face.add(m);
            }
        }
        face.sort(Comparator.comparing(Method::getName));
        for (int seed = 1; seed <= 1000; seed++) {
            String once = run(face, seed);
            CHECKS.holds("the same calls give the same answers, by seed " + seed, once.equals(run(face, seed)));
        }
        CHECKS.end();
    }

    /** All answers of an object's 512 calls, as one text. */
    private static String run(List<Method> face, int seed) throws IllegalAccessException {
        Random random = new Random(seed * 0x9E3779B97F4A7C15L);
        HermitLadder x = new HermitLadder();
        StringBuilder answers = new StringBuilder();
        for (int calls = 0; calls < 512; calls++) {
            if (calls == 0 || random.nextInt(60) == 0) {
                calls += tell(x, random);
                x.numbers(random.nextInt(4), random.nextInt(4), 1 + random.nextInt(8));
            }
            Method m = face.get(random.nextInt(face.size()));
            // What is only fed and never read would leave little else to do.
            if (m.getName().equals("cliff") && random.nextInt(4) != 0) {
                continue;
            }
            Object[] args = drawn(m, random);
            try {
                answers.append(m.invoke(x, args)).append(' ');
            } catch (InvocationTargetException e) {
                CHECKS.holds(m.getName() + " by seed " + seed + " threw " + e.getCause(), false);
            }
        }
        return answers.toString();
    }

    private static int tell(HermitLadder x, Random random) {
        String text = Texts.drawn(random);
        text = random.nextInt(4) == 0 ? Texts.broken(random, text) : text;
        text = text.substring(0, Math.min(900, text.length()));
        x.cliff(0);
        Checks.tell(x, text);
        return text.length() / 20 + 3;
    }

    private static Object[] drawn(Method m, Random random) {
        Object[] args = new Object[m.getParameterCount()];
        for (int i = 0; i < args.length; i++) {
            long v = random.nextInt(7) == 0 ? ODD[random.nextInt(ODD.length)] : random.nextInt(5);
            args[i] = m.getParameterTypes()[i] == long.class ? (Object) v : (Object) (int) v;
        }
        return args;
    }
}
