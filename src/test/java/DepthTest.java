import java.io.File;
import java.io.PrintWriter;
import java.io.StringWriter;
import java.util.ArrayList;
import java.util.Arrays;
import java.util.List;
import java.util.Map;
import java.util.Set;
import java.util.TreeMap;
import java.util.TreeSet;
import java.util.regex.Matcher;
import java.util.regex.Pattern;
import java.util.spi.ToolProvider;

/** LANGUAGE.md, rules 8 and 11: how deep calls go, by what the compiled class calls. */
public final class DepthTest {
    private static final Checks CHECKS = new Checks("DepthTest");
    private static final Pattern CLASS = Pattern.compile("^(?:\\w+ )*class ([\\w$]+)");
    private static final Pattern METHOD = Pattern.compile("^  (\\S.* )?([\\w$]+)\\(.*\\);$");
    private static final Pattern CALL = Pattern.compile("invoke\\w+ .*Method (?:([\\w$]+)\\.)?\"?([\\w<>]+)\"?:");

    private static final Map<String, Set<String>> CALLS = new TreeMap<>();

    public static void main(String[] args) {
        read(disassembled());
        CHECKS.holds("the face was read", CALLS.containsKey("HermitLadder.feed"));
        for (String method : CALLS.keySet()) {
            List<String> chain = deepest(method);
            CHECKS.holds("eight deep at most: " + chain, chain.size() <= 8);
            boolean recursive = reached(method).contains(method);
            CHECKS.holds("only the text is read by recursion: " + method,
                !recursive || method.startsWith("HermitLadder$Reader.read"));
        }
        CHECKS.end();
    }

    private static String disassembled() {
        String dir = System.getProperty("java.class.path").split(File.pathSeparator)[0];
        List<String> arguments = new ArrayList<>(List.of("-p", "-c"));
        for (File f : new File(dir).listFiles()) {
            if (f.getName().matches("HermitLadder(\\$\\w+)?\\.class")) {
                arguments.add(f.getPath());
            }
        }
        StringWriter text = new StringWriter();
        PrintWriter out = new PrintWriter(text);
        ToolProvider.findFirst("javap").orElseThrow().run(out, out, arguments.toArray(new String[0]));
        return text.toString();
    }

    private static void read(String text) {
        String inside = "";
        String method = "";
        for (String line : text.split("\n")) {
            Matcher c = CLASS.matcher(line);
            Matcher m = METHOD.matcher(line);
            Matcher call = CALL.matcher(line);
            if (c.find()) {
                inside = c.group(1);
            } else if (m.find()) {
                method = inside + "." + (m.group(2).equals(inside) ? "<init>" : m.group(2));
                CALLS.putIfAbsent(method, new TreeSet<>());
            } else if (call.find()) {
                String of = call.group(1) == null ? inside : call.group(1);
                if (of.startsWith("HermitLadder")) {
                    CALLS.get(method).add(of + "." + call.group(2));
                }
            }
        }
    }

    private static Set<String> reached(String method) {
        Set<String> all = new TreeSet<>();
        List<String> open = new ArrayList<>(CALLS.getOrDefault(method, Set.of()));
        while (!open.isEmpty()) {
            String next = open.remove(open.size() - 1);
            if (all.add(next)) {
                open.addAll(CALLS.getOrDefault(next, Set.of()));
            }
        }
        return all;
    }

    /** The longest chain of calls from a method on; methods that call one another count once. */
    private static List<String> deepest(String method) {
        Set<String> knot = new TreeSet<>(Set.of(method));
        for (String other : reached(method)) {
            if (reached(other).contains(method)) {
                knot.add(other);
            }
        }
        List<String> longest = new ArrayList<>();
        for (String member : knot) {
            for (String next : CALLS.getOrDefault(member, Set.of())) {
                if (!knot.contains(next)) {
                    List<String> chain = deepest(next);
                    longest = chain.size() > longest.size() ? chain : longest;
                }
            }
        }
        List<String> all = new ArrayList<>(Arrays.asList(knot.size() > 1 ? knot.toString() : method));
        all.addAll(longest);
        return all;
    }
}
