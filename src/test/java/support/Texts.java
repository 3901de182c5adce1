import java.util.Random;

/** Cliffs' texts as drawn, and ways to break them. */
final class Texts {
    private static final String[] WORDS = {
        "cliff", "rungs", "things", ";", "hole", "bars", "gives", "rough", "pilgrim", "at",
        "strength", "has", "wind", "slips", "tires", ":", "may", "+", "-", "*", "(", ")", "[", "]",
        "=", "<", ">", "if", "then", "else", "end", "not", "or", "and", "rung", "room", "0", "1",
        "7", "12", "999", "1000", "#", "A", "wet", "\t", "00", "$", "@",
    };

    private final Random random;
    private final StringBuilder out = new StringBuilder();
    private int top;
    private int things;

    private Texts(Random random) {
        this.random = random;
    }

    static String drawn(Random random) {
        Texts t = new Texts(random);
        t.cliff();
        return t.out.toString();
    }

    static String broken(Random random, String text) {
        int at = random.nextInt(text.length() + 1);
        switch (random.nextInt(5)) {
            case 0: return text.substring(0, at);
            case 1: return text.substring(0, at) + WORDS[random.nextInt(WORDS.length)] + text.substring(at);
            case 2: return text.substring(0, at) + " " + WORDS[random.nextInt(WORDS.length)] + " " + text.substring(at);
            case 3: return text.substring(0, at) + text.substring(Math.min(text.length(), at + 1 + random.nextInt(4)));
            default: return text.substring(0, at) + (char) random.nextInt(256) + text.substring(at);
        }
    }

    private int below(int n) {
        return n <= 0 ? 0 : random.nextInt(n);
    }

    /** A number below n, very seldom n itself, which the text's bounds forbid. */
    private int mostlyBelow(int n) {
        return below(150) == 0 ? n : below(n);
    }

    private boolean isSign(String word) {
        return !Character.isLetterOrDigit(word.charAt(0));
    }

    private void say(Object... words) {
        for (Object o : words) {
            String word = o.toString();
            boolean glued = out.length() == 0 || below(2) == 0
                && (isSign(word) || isSign(out.substring(out.length() - 1)));
            out.append(glued ? "" : below(10) == 0 ? "\n " : " ").append(word);
        }
    }

    private void cliff() {
        top = below(4) == 0 ? 1 + below(8) : 1 + below(4);
        things = below(5) == 0 ? below(7) : below(4);
        say("cliff", "rungs", top, "things", things, ";");
        int lines = 3 + below(12);
        for (int i = 0; i < lines && out.length() < 700; i++) {
            line();
            say(";");
        }
    }

    private void line() {
        if (below(40) == 0) {
            deep();
            return;
        }
        switch (below(9)) {
            case 0: pilgrim(); break;
            case 1: say("wind", mostlyBelow(10)); break;
            case 2: say("slips", mostlyBelow(11)); break;
            case 3: say("tires", ":"); sum(0, below(4), false); break;
            case 4: say("may", ":"); truth(0, below(4), true); break;
            default: hole(); break;
        }
    }

    /** About as many levels as are allowed, one more now and then. */
    private void deep() {
        int levels = 4 + below(4);
        String[] openers = {"not", "[", "(", "if"};
        StringBuilder end = new StringBuilder();
        say("may", ":");
        boolean inSum = false;
        for (int i = 0; i < levels; i++) {
            int k = inSum ? 2 + below(2) : below(4);
            say(openers[k]);
            String rest = k == 0 ? "" : k == 1 ? " ]" : k == 2 ? " )" : " then 1 else wind end";
            end.insert(0, !inSum && k >= 2 ? rest + " > 1" : rest);
            inSum = k == 2 || k != 3 && inSum;
        }
        out.append(inSum ? " strength" : " strength > 2").append(end);
    }

    private void pilgrim() {
        say("pilgrim", "at", below(3) == 0 ? mostlyBelow(top + 1) : 0, "strength", mostlyBelow(5));
        for (int i = below(4); i > 0 && things > 0; i--) {
            say("has", mostlyBelow(things));
        }
    }

    private void hole() {
        say("hole", mostlyBelow(top + 1));
        for (int i = below(4); i > 0; i--) {
            int k = below(3);
            if (k == 0) {
                say("rough", mostlyBelow(10));
            } else if (things > 0) {
                say(k == 1 ? "bars" : "gives", mostlyBelow(things));
            }
        }
    }

    /** Depth may come to 7 now and then: a fault that the class must find. */
    private void sum(int depth, int size, boolean room) {
        term(depth, size - 1, room);
        for (int i = below(Math.max(1, size)); i > 0; i--) {
            say(below(2) == 0 ? "+" : "-");
            term(depth, size - 1, room);
        }
    }

    private void term(int depth, int size, boolean room) {
        atom(depth, size - 1, room);
        for (int i = below(4) == 0 ? 1 : 0; i > 0; i--) {
            say("*");
            atom(depth, size - 1, room);
        }
    }

    private void atom(int depth, int size, boolean room) {
        String[] facts = {"rung", "rough", "strength", "strength", "things", "wind", "wind", "room"};
        int k = below(8);
        if (k == 0 && depth < 7 && out.length() < 700) {
            say("(");
            sum(depth + 1, size, room);
            say(")");
        } else if (k == 1 && depth < 7 && out.length() < 700) {
            say("if");
            truth(depth + 1, size, room);
            say("then");
            sum(depth + 1, size, room);
            say("else");
            sum(depth + 1, size, room);
            say("end");
        } else if (k < 6) {
            say(facts[below(room ? 8 : 7)]);
        } else {
            say(below(20) == 0 ? below(1000) : below(6));
        }
    }

    private void truth(int depth, int size, boolean room) {
        unit(depth, size, room);
        while (below(4) == 0) {
            say(below(2) == 0 ? "and" : "or");
            unit(depth, size, room);
        }
    }

    private void unit(int depth, int size, boolean room) {
        int k = below(6);
        if (k == 0 && depth < 7) {
            say("not");
            unit(depth + 1, size, room);
        } else if (k == 1 && depth < 7) {
            say("[");
            truth(depth + 1, size, room);
            say("]");
        } else {
            sum(depth, size, room);
            say(new String[] {"=", "<", ">"}[below(3)]);
            sum(depth, size, room);
        }
    }
}
