import java.io.IOException;
import java.lang.reflect.Constructor;
import java.lang.reflect.Field;
import java.lang.reflect.Method;
import java.lang.reflect.Modifier;
import java.nio.charset.StandardCharsets;
import java.nio.file.Files;
import java.nio.file.Path;
import java.util.ArrayList;
import java.util.Arrays;
import java.util.List;
import java.util.Set;
import java.util.TreeSet;
import java.util.regex.Matcher;
import java.util.regex.Pattern;

/** The rules of LANGUAGE.md, as far as a text and its class show them. */
public final class LanguageTest {
    private static final Checks CHECKS = new Checks("LanguageTest");

    private static final String[] FACE = {
        "int feed(int,int,int,int,int)", "int cliff(int)", "int fault(int)", "int hole(int,int)",
        "int why(int)", "int by(int,int)", "int act(int)", "int wind(int)", "int habit(int)",
        "int undo(int)", "int judge(int,int)", "int perform(int)", "int year(int,int)",
        "int soonest(int,int)", "int way(int,int,int)", "long rows(int,int,int)", "int highest(int)",
        "int most(int,int)", "int loses(int)", "int stands()", "int lands(int,int)",
        "int shares(int,int,int)", "int lies(int)", "int round(int)", "int when(int)",
        "long seen(int)", "int seenBy(int,int)", "int surely(int)", "int winds(int)",
        "int attempt(int)", "int withstands(int)", "int chance(int,int,int)", "int best(int,int)",
        "int numbers(int,int,int)", "long write(int,int,long)", "int lists(int,int,int)",
        "int image(int)", "int restore(int)", "int count(int)",
    };

    public static void main(String[] args) throws IOException {
        face();
        nested();
        String source = Files.readString(Path.of("src/main/java/HermitLadder.java"), StandardCharsets.ISO_8859_1);
        words(source);
        sizes(source);
        CHECKS.end();
    }

    private static void holds(String what, boolean so) {
        CHECKS.holds(what, so);
    }

    private static String told(Method m) {
        StringBuilder s = new StringBuilder(m.getReturnType().getName()).append(' ').append(m.getName()).append('(');
        for (Class<?> p : m.getParameterTypes()) {
            s.append(s.charAt(s.length() - 1) == '(' ? "" : ",").append(p.getName());
        }
        return s.append(')').toString();
    }

    private static void face() {
        Class<?> c = HermitLadder.class;
        holds("public and final", Modifier.isPublic(c.getModifiers()) && Modifier.isFinal(c.getModifiers()));
        Set<String> shown = new TreeSet<>();
        for (Method m : c.getDeclaredMethods()) {
            if (!Modifier.isPrivate(m.getModifiers())) {
                shown.add(told(m));
                holds("public: " + told(m), Modifier.isPublic(m.getModifiers()) && !Modifier.isStatic(m.getModifiers()));
            }
        }
        holds("the face: " + shown, shown.equals(new TreeSet<>(Arrays.asList(FACE))));
        for (Constructor<?> k : c.getDeclaredConstructors()) {
            holds("one public constructor", Modifier.isPublic(k.getModifiers()) && k.getParameterCount() == 0);
        }
        for (Field f : c.getDeclaredFields()) {
            boolean constant = f.getName().equals("NONE") && Modifier.isPublic(f.getModifiers());
            holds("private: " + f.getName(), constant || Modifier.isPrivate(f.getModifiers()));
        }
    }

    private static void nested() {
        Set<String> shown = new TreeSet<>();
        for (Method m : HermitLadder.class.getDeclaredMethods()) {
            if (Modifier.isPublic(m.getModifiers())) {
                shown.add(m.getName());
            }
        }
        List<Class<?>> all = new ArrayList<>(Arrays.asList(HermitLadder.class.getDeclaredClasses()));
        holds("some twelve classes", all.size() + 1 <= 12);
        all.add(HermitLadder.class);
        for (Class<?> c : all) {
            holds("static: " + c, c == HermitLadder.class || Modifier.isStatic(c.getModifiers()));
            int fields = 0;
            for (Field f : c.getDeclaredFields()) {
                boolean isStatic = Modifier.isStatic(f.getModifiers());
                fields += isStatic ? 0 : 1;
                holds("static and final: " + f, !isStatic || Modifier.isFinal(f.getModifiers()));
            }
            holds("some twenty fields: " + c, fields <= 20);
            for (Method m : c.getDeclaredMethods()) {
                boolean own = c == HermitLadder.class && Modifier.isPublic(m.getModifiers());
                holds("no name of the face: " + m, own || !shown.contains(m.getName()));
                holds("seven parameters at most: " + m, m.getParameterCount() <= 7);
            }
        }
    }

    private static String withoutComments(String source) {
        return source.replaceAll("(?s)/\\*.*?\\*/", "").replaceAll("//[^\n]*", "");
    }

    private static void words(String source) {
        String code = withoutComments(source);
        String[] forbidden = {"throw", "throws", "try", "catch", "finally", "synchronized", "assert",
            "package", "Object", "System\\.out", "System\\.in", "System\\.err", "System\\.nanoTime",
            "System\\.currentTimeMillis", "Random", "Thread", "Exact", "hashCode", "toString",
            "volatile", "transient", "native", "protected", "var", "yield", "float", "double",
            "Integer\\.valueOf", "instanceof", "goto", "record", "HashMap", "Map", "Set", "Scanner"};
        for (String word : forbidden) {
            holds("without " + word, !Pattern.compile("\\b" + word + "\\b").matcher(code).find());
        }
        holds("no lambda", !code.contains("->") && !code.contains("::"));
        holds("no annotation", !code.contains("@"));
        holds("no static block", !Pattern.compile("static\\s*\\{").matcher(code).find());
        Matcher imports = Pattern.compile("import ([^;]*);").matcher(code);
        while (imports.find()) {
            holds("import " + imports.group(1), imports.group(1).matches("java\\.util\\.(Arrays|ArrayList|List)"));
        }
        Matcher calls = Pattern.compile("\\b(System|Arrays|Math|Integer|Long|String|Character)\\.(\\w+)").matcher(code);
        Set<String> allowed = Set.of("System.arraycopy", "Arrays.fill", "Arrays.copyOf", "Math.max", "Math.min", "Integer.bitCount");
        while (calls.find()) {
            holds("the library: " + calls.group(), allowed.contains(calls.group()));
        }
        boolean plain = true;
        for (int i = 0; i < source.length(); i++) {
            plain &= source.charAt(i) < 128;
        }
        holds("signs 1 to 127 alone", plain);
    }

    /** A method begins with a line of four or eight blanks and an opening brace at its end. */
    private static void sizes(String source) {
        Pattern head = Pattern.compile("^( {4}| {8})[a-zA-Z].*\\) \\{$");
        String[] lines = source.split("\n", -1);
        int began = -1;
        String blanks = "";
        for (int i = 0; i < lines.length; i++) {
            Matcher m = head.matcher(lines[i]);
            if (began < 0 && m.find() && !lines[i].contains(" class ")) {
                began = i;
                blanks = m.group(1);
            } else if (began >= 0 && lines[i].equals(blanks + "}")) {
                holds("some sixty lines: " + lines[began].trim(), i - began <= 60);
                began = -1;
            }
            holds("a line of 110 signs at most: " + (i + 1), lines[i].length() <= 110);
        }
        holds("every method ends", began < 0);
    }
}
