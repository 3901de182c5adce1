import java.io.IOException;
import java.nio.charset.StandardCharsets;
import java.nio.file.Files;
import java.nio.file.Path;
import java.util.Arrays;
import java.util.List;
import java.util.Map;
import java.util.TreeMap;
import java.util.regex.Matcher;
import java.util.regex.Pattern;
import java.util.stream.Collectors;
import java.util.stream.Stream;

/**
 * That the Edges tests together name every sentence: each quotes the document word by word, and what
 * the terms and the promises say is quoted whole.
 */
public final class SentencesTest {
    private static final Checks CHECKS = new Checks("SentencesTest");
    private static final Path DOC = Path.of("../shared/DOC.md");
    private static final int PROMISES = 40;
    private static final Pattern QUOTE = Pattern.compile("\\bE\\.of\\((\\d+),\\s*((?:\"[^\"]*\"[\\s+]*)+)\\)");
    private static final Pattern PART = Pattern.compile("\"([^\"]*)\"");

    /** A stretch of the document and which of its signs some test has quoted. */
    private static final class Stretch {
        final String name;
        final String text;
        final boolean[] quoted;

        Stretch(String name, String text) {
            this.name = name;
            this.text = text;
            quoted = new boolean[text.length()];
        }

        boolean quote(String words) {
            int at = text.indexOf(words);
            for (int from = at; from >= 0; from = text.indexOf(words, from + 1)) {
                Arrays.fill(quoted, from, from + words.length(), true);
            }
            return at >= 0;
        }

        String left() {
            StringBuilder s = new StringBuilder();
            for (int i = 0; i < quoted.length; i++) {
                s.append(quoted[i] ? ' ' : text.charAt(i));
            }
            return s.toString().replaceAll("[^a-zA-Z0-9]+", " ").trim();
        }
    }

    public static void main(String[] args) throws IOException {
        if (!Files.isReadable(DOC)) {
            System.out.println("SentencesTest: no document at " + DOC + ", so nothing to compare with");
            return;
        }
        Map<Integer, Stretch> all = stretches(Files.readString(DOC, StandardCharsets.UTF_8));
        CHECKS.due("the document's promises", all.size() - 1, PROMISES);
        int[] tests = new int[PROMISES + 1];
        try (Stream<Path> files = Files.list(Path.of("src/test/java"))) {
            List<Path> edges = files.filter(f -> f.getFileName().toString().matches("Edges\\w+\\.java"))
                .collect(Collectors.toList());
            for (Path file : edges) {
                quotes(Files.readString(file, StandardCharsets.UTF_8), all, tests);
            }
        }
        for (int promise = 1; promise <= PROMISES; promise++) {
            CHECKS.holds("promise " + promise + " has a test of its own", tests[promise] > 0);
        }
        for (Stretch stretch : all.values()) {
            CHECKS.holds(stretch.name + ", not quoted by any test: " + stretch.left(), stretch.left().isEmpty());
        }
        CHECKS.end();
    }

    private static void quotes(String source, Map<Integer, Stretch> all, int[] tests) {
        Matcher m = QUOTE.matcher(source);
        while (m.find()) {
            int promise = Integer.parseInt(m.group(1));
            StringBuilder words = new StringBuilder();
            Matcher part = PART.matcher(m.group(2));
            while (part.find()) {
                words.append(part.group(1));
            }
            boolean there = all.containsKey(promise) && all.get(promise).quote(words.toString());
            CHECKS.holds("promise " + promise + " or the terms say: " + words,
                there || all.get(0).quote(words.toString()));
            tests[promise] += there ? 1 : 0;
        }
    }

    /** The promises by their numbers; 0: all else that the document says of calls. */
    private static Map<Integer, Stretch> stretches(String doc) {
        Map<Integer, Stretch> all = new TreeMap<>();
        Matcher m = Pattern.compile("(?s)## Promise (\\d+):[^\n]*\n(.*?)(?=\n## )").matcher(doc);
        while (m.find()) {
            String body = m.group(2).replaceFirst("(?s)^\\s*`[^`]*`:", "");
            all.put(Integer.parseInt(m.group(1)), new Stretch("promise " + m.group(1), plain(body)));
        }
        Matcher used = Pattern.compile("An object is used[^\n]*").matcher(doc);
        Matcher terms = Pattern.compile("(?s)## Terms\n(.*?)\nAhead of the calls").matcher(doc);
        Matcher not = Pattern.compile("Nothing is promised[^\n]*").matcher(doc);
        String others = (used.find() ? used.group() : "") + " " + (terms.find() ? terms.group(1) : "") + " "
            + (not.find() ? not.group() : "");
        all.put(0, new Stretch("the terms", plain(others.replace("The constants:", ""))));
        return all;
    }

    private static String plain(String text) {
        return text.replaceAll("(?m)^```.*$", " ").replaceAll("==== \\d\\.", " ").replaceAll("\\s+", " ").trim();
    }
}
