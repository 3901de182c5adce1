import java.io.ByteArrayOutputStream;
import java.io.IOException;
import java.io.PrintStream;
import java.lang.reflect.Method;
import java.lang.reflect.Modifier;
import java.net.URL;
import java.net.URLClassLoader;
import java.nio.charset.StandardCharsets;
import java.nio.file.Files;
import java.nio.file.Path;
import java.util.ArrayList;
import java.util.Comparator;
import java.util.List;
import java.util.regex.Matcher;
import java.util.regex.Pattern;
import java.util.spi.ToolProvider;
import java.util.stream.Collectors;
import java.util.stream.Stream;

/** That README.md says how to use the class and how to run its tests, and that it is so. */
public final class ReadmeTest {
    private static final Checks CHECKS = new Checks("ReadmeTest");
    private static final Pattern PROGRAM = Pattern.compile("(?s)```java\n(public final class Example .*?)```");
    private static final Pattern PRINTED = Pattern.compile("\\); *// (-?\\d+)\\b");

    public static void main(String[] args) throws Exception {
        String readme = Files.readString(Path.of("README.md"), StandardCharsets.UTF_8);
        Matcher m = PROGRAM.matcher(readme);
        boolean told = m.find();
        CHECKS.holds("a program shows how to use the class", told);
        if (told) {
            printsAsTold(m.group(1));
        }
        tellsEveryCall(readme);
        tellsEveryTest(readme);
        CHECKS.end();
    }

    private static void printsAsTold(String program) throws Exception {
        List<String> due = new ArrayList<>();
        Matcher m = PRINTED.matcher(program);
        while (m.find()) {
            due.add(m.group(1));
        }
        // Each say() must have its answer, or a wrong one could go unseen.
        CHECKS.due("answers told", due.size(), program.split("\\bsay\\((?!long)", -1).length - 1);
        String[] printed = printed(program).split("\n");
        CHECKS.due("lines printed", printed.length, due.size());
        for (int i = 0; i < due.size() && i < printed.length; i++) {
            CHECKS.due("README.md's line " + (i + 1), Long.parseLong(printed[i].trim()), Long.parseLong(due.get(i)));
        }
    }

    private static String printed(String program) throws Exception {
        Path dir = Files.createTempDirectory("readme");
        PrintStream out = System.out;
        ByteArrayOutputStream kept = new ByteArrayOutputStream();
        try (URLClassLoader loader = new URLClassLoader(new URL[] {dir.toUri().toURL()})) {
            Path source = Files.writeString(dir.resolve("Example.java"), program, StandardCharsets.UTF_8);
            int code = ToolProvider.findFirst("javac").orElseThrow().run(out, out, "-cp",
                System.getProperty("java.class.path"), "-d", dir.toString(), source.toString());
            CHECKS.due("README.md's program compiles", code, 0);
            if (code == 0) {
                System.setOut(new PrintStream(kept, true));
                loader.loadClass("Example").getMethod("main", String[].class).invoke(null, (Object) new String[0]);
            }
        } finally {
            System.setOut(out);
            delete(dir);
        }
        return kept.toString(StandardCharsets.UTF_8);
    }

    private static void delete(Path dir) throws IOException {
        try (Stream<Path> files = Files.walk(dir)) {
            for (Path file : files.sorted(Comparator.reverseOrder()).collect(Collectors.toList())) {
                Files.delete(file);
            }
        }
    }

    private static void tellsEveryCall(String readme) {
        for (Method m : HermitLadder.class.getDeclaredMethods()) {
            CHECKS.holds("README.md names " + m.getName(),
                !Modifier.isPublic(m.getModifiers()) || readme.contains("`" + m.getName() + "`"));
        }
    }

    private static void tellsEveryTest(String readme) throws IOException {
        CHECKS.holds("README.md names .ci/run", readme.contains(".ci/run"));
        try (Stream<Path> files = Files.list(Path.of("src/test/java"))) {
            for (Path file : files.filter(f -> f.toString().endsWith(".java")).collect(Collectors.toList())) {
                String name = file.getFileName().toString().replace(".java", "");
                CHECKS.holds("README.md names " + name, readme.contains("`" + name + "`"));
            }
        }
    }
}
