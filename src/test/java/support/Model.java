import java.math.BigInteger;
import java.util.ArrayDeque;
import java.util.ArrayList;
import java.util.Arrays;
import java.util.Deque;
import java.util.HashMap;
import java.util.List;
import java.util.Map;
import java.util.TreeMap;

/**
 * The document once more, written plainly and slowly and in other ways than the class, so that the
 * two can be compared.
 */
final class Model {
    static final int NONE = -1;

    /** A rung, things and a strength. */
    record At(int rung, int things, int strength) { }

    /** What undoing brings back. */
    record Moment(At at, int wind, int deeds) { }

    static final class Rock {
        int top = 1;
        int things = 0;
        int[] bars = new int[9];
        int[] gives = new int[9];
        int[] rough = new int[9];
        At start = new At(0, 0, 4);
        int wind = 0;
        int slips = 0;
        int lines = 0;
        List<String> tires = null;
        List<String> may = null;
    }

    private StringBuilder tape = new StringBuilder();
    private Rock rock = new Rock();
    private Moment now = new Moment(rock.start, 0, 0);
    private final Deque<Moment> past = new ArrayDeque<>();
    private int fault = 0;
    private int place = NONE;
    private final long[][] trays = new long[4][];
    private final int[] sorts = new int[4];
    private final Rock[] imageRocks = new Rock[2];
    private final Moment[] imageMoments = new Moment[2];
    private Map<At, List<Integer>> reached = null;

    // ---- the text

    record Token(String text, int place) { }

    /** Tokens up to the first that is none; that one has a null text. */
    static List<Token> tokens(String s) {
        List<Token> all = new ArrayList<>();
        int i = 0;
        while (i < s.length()) {
            char c = s.charAt(i);
            if (c == 10 || c == 32) {
                i++;
                continue;
            }
            int j = i + 1;
            if (Character.toString(c).matches("[a-z]")) {
                while (j < s.length() && s.charAt(j) >= 'a' && s.charAt(j) <= 'z') {
                    j++;
                }
            } else if (Character.toString(c).matches("[0-9]")) {
                while (j < s.length() && s.charAt(j) >= '0' && s.charAt(j) <= '9') {
                    j++;
                }
                if (j - i > 3) {
                    all.add(new Token(null, i));
                    return all;
                }
            } else if (!Character.toString(c).matches("[;:+\\-*()\\[\\]=<>]")) {
                all.add(new Token(null, i));
                return all;
            }
            all.add(new Token(s.substring(i, j), i));
            i = j;
        }
        all.add(new Token("$", s.length()));
        return all;
    }

    private static boolean oneOf(String token, String... words) {
        return Arrays.asList(words).contains(token);
    }

    private static boolean isNumber(String token) {
        return token.matches("[0-9]+");
    }

    /** A pushdown machine over the grammar: answers the fault's kind and place, {0, NONE} if none. */
    static int[] findFault(List<Token> all) {
        Deque<String> stack = new ArrayDeque<>();
        for (String s : "$ LINES ; THINGS things TOP rungs cliff".split(" ")) {
            stack.push(s);
        }
        int top = 0;
        int things = 0;
        int depth = 0;
        boolean may = false;
        for (Token token : all) {
            String t = token.text();
            if (t == null) {
                return new int[] {1, token.place()};
            }
            while (true) {
                String s = stack.pop();
                if (s.equals("UP")) {
                    depth--;
                    continue;
                }
                if (s.equals("TIRES") || s.equals("MAY")) {
                    may = s.equals("MAY");
                    stack.push(may ? "TRUTH" : "SUM");
                    continue;
                }
                String bounds = bounds(s, top, things);
                if (bounds != null) {
                    if (!isNumber(t)) {
                        return new int[] {2, token.place()};
                    }
                    String[] b = bounds.split(" ");
                    int v = Integer.parseInt(t);
                    if (v < Integer.parseInt(b[0]) || v > Integer.parseInt(b[1])) {
                        return new int[] {3, token.place()};
                    }
                    top = s.equals("TOP") ? v : top;
                    things = s.equals("THINGS") ? v : things;
                    break;
                }
                String more = expand(s, t, may);
                if (more == null) {
                    boolean fits = s.equals(t) || s.equals("N") && isNumber(t);
                    if (!fits) {
                        return new int[] {2, token.place()};
                    }
                    if (oneOf(t, "not", "[", "(") || t.equals("if")) {
                        depth++;
                        if (depth > 6) {
                            return new int[] {4, token.place()};
                        }
                    }
                    break;
                }
                String[] parts = more.isEmpty() ? new String[0] : more.split(" ");
                for (int i = parts.length - 1; i >= 0; i--) {
                    stack.push(parts[i]);
                }
            }
        }
        return new int[] {0, NONE};
    }

    private static String bounds(String s, int top, int things) {
        switch (s) {
            case "TOP": return "1 8";
            case "THINGS": return "0 6";
            case "RUNG": return "0 " + top;
            case "THING": return "0 " + (things - 1);
            case "ROUGH": return "0 9";
            case "STRENGTH": return "0 4";
            case "WIND": return "0 9";
            case "SLIPS": return "0 10";
            default: return null;
        }
    }

    /** What a symbol becomes ahead of a token; null: it is a token itself (or nothing fits). */
    private static String expand(String s, String t, boolean may) {
        switch (s) {
            case "LINES": return t.equals("$") ? "" : "LINE ; LINES";
            case "LINE":
                switch (t) {
                    case "hole": return "hole RUNG FLAGS";
                    case "pilgrim": return "pilgrim at RUNG strength STRENGTH HASES";
                    case "wind": return "wind WIND";
                    case "slips": return "slips SLIPS";
                    case "tires": return "tires : TIRES";
                    case "may": return "may : MAY";
                    default: return null;
                }
            case "FLAGS":
                switch (t) {
                    case "bars": return "bars THING FLAGS";
                    case "gives": return "gives THING FLAGS";
                    case "rough": return "rough ROUGH FLAGS";
                    default: return "";
                }
            case "HASES": return t.equals("has") ? "has THING HASES" : "";
            case "TRUTH": return "BOTH ORS";
            case "ORS": return t.equals("or") ? "or BOTH ORS" : "";
            case "BOTH": return "UNIT ANDS";
            case "ANDS": return t.equals("and") ? "and UNIT ANDS" : "";
            case "UNIT":
                if (t.equals("not")) {
                    return "not UNIT UP";
                }
                return t.equals("[") ? "[ TRUTH ] UP" : "SUM COMPARE SUM";
            case "COMPARE": return oneOf(t, "=", "<", ">") ? t : null;
            case "SUM": return "TERM PLUSES";
            case "PLUSES": return oneOf(t, "+", "-") ? t + " TERM PLUSES" : "";
            case "TERM": return "ATOM STARS";
            case "STARS": return t.equals("*") ? "* ATOM STARS" : "";
            case "ATOM":
                if (isNumber(t)) {
                    return "N";
                }
                if (t.equals("(")) {
                    return "( SUM ) UP";
                }
                if (t.equals("if")) {
                    return "if TRUTH then SUM else SUM end UP";
                }
                if (oneOf(t, "rung", "rough", "strength", "things", "wind")) {
                    return t;
                }
                return t.equals("room") && may ? t : null;
            default: return null;
        }
    }

    private static Rock build(List<Token> all) {
        Rock r = new Rock();
        List<String> line = new ArrayList<>();
        for (Token token : all) {
            if (!token.text().equals(";")) {
                line.add(token.text());
                continue;
            }
            r.lines++;
            addLine(r, line);
            line = new ArrayList<>();
        }
        return r;
    }

    private static int number(List<String> line, int i) {
        return Integer.parseInt(line.get(i));
    }

    private static void addLine(Rock r, List<String> line) {
        switch (line.get(0)) {
            case "cliff":
                r.top = number(line, 2);
                r.things = number(line, 4);
                break;
            case "hole":
                for (int i = 2; i < line.size(); i += 2) {
                    int rung = number(line, 1);
                    int v = number(line, i + 1);
                    switch (line.get(i)) {
                        case "bars": r.bars[rung] |= 1 << v; break;
                        case "gives": r.gives[rung] |= 1 << v; break;
                        default: r.rough[rung] = v; break;
                    }
                }
                break;
            case "pilgrim":
                int has = 0;
                for (int i = 5; i < line.size(); i += 2) {
                    has |= 1 << number(line, i + 1);
                }
                r.start = new At(number(line, 2), has, number(line, 4));
                break;
            case "wind": r.wind = number(line, 1); break;
            case "slips": r.slips = number(line, 1); break;
            case "tires": r.tires = line.subList(2, line.size()); break;
            default: r.may = line.subList(2, line.size()); break;
        }
    }

    // ---- laws, told anew from their words each time

    private static final class Teller {
        final List<String> words;
        final Map<String, Integer> facts;
        int i = 0;

        Teller(List<String> words, Map<String, Integer> facts) {
            this.words = words;
            this.facts = facts;
        }

        boolean next(String word) {
            if (i < words.size() && words.get(i).equals(word)) {
                i++;
                return true;
            }
            return false;
        }

        static long kept(long v) {
            return v < -1000000 ? -1000000 : v > 1000000 ? 1000000 : v;
        }

        long sum() {
            long v = term();
            while (true) {
                if (next("+")) {
                    v = kept(v + term());
                } else if (next("-")) {
                    v = kept(v - term());
                } else {
                    return v;
                }
            }
        }

        long term() {
            long v = atom();
            while (next("*")) {
                v = kept(v * atom());
            }
            return v;
        }

        long atom() {
            if (next("(")) {
                long v = sum();
                next(")");
                return v;
            }
            if (next("if")) {
                boolean so = truth();
                next("then");
                long a = sum();
                next("else");
                long b = sum();
                next("end");
                return so ? a : b;
            }
            String word = words.get(i++);
            return facts.containsKey(word) ? facts.get(word) : Long.parseLong(word);
        }

        boolean truth() {
            boolean v = both();
            while (next("or")) {
                boolean w = both();
                v = v || w;
            }
            return v;
        }

        boolean both() {
            boolean v = unit();
            while (next("and")) {
                boolean w = unit();
                v = v && w;
            }
            return v;
        }

        boolean unit() {
            if (next("not")) {
                return !unit();
            }
            if (next("[")) {
                boolean v = truth();
                next("]");
                return v;
            }
            long a = sum();
            String sign = words.get(i++);
            long b = sum();
            return sign.equals("=") ? a == b : sign.equals("<") ? a < b : a > b;
        }
    }

    private Map<String, Integer> facts(At p, int wind) {
        int rung = p.rung() + 1;
        int room = 0;
        for (int k = 0; k < rock.things; k++) {
            room += 1 - (rock.bars[rung] >> k & 1);
        }
        return Map.of("rung", rung, "rough", rock.rough[rung], "strength", p.strength(),
            "things", Integer.bitCount(p.things()), "wind", wind, "room", room);
    }

    // ---- single deeds

    private int whyNot(At p, int wind, int deed) {
        if (deed == 0) {
            return 0;
        }
        if (deed == 1 || deed == 2) {
            int to = deed == 1 ? p.rung() + 1 : p.rung() - 1;
            if (to < 0 || to > rock.top) {
                return 2;
            }
            if ((rock.bars[to] & p.things()) != 0) {
                return 3;
            }
            if (deed == 2) {
                return 0;
            }
            boolean may = rock.may == null ? p.strength() >= 1
                : new Teller(rock.may, facts(p, wind)).truth();
            return may ? 0 : 4;
        }
        int thing = deed % 10;
        if (deed < 10 || deed > 29 || thing >= rock.things) {
            return 1;
        }
        boolean has = (p.things() & 1 << thing) != 0;
        if (deed < 20) {
            return has ? 0 : 2;
        }
        if (has || (rock.gives[p.rung()] & 1 << thing) == 0) {
            return 2;
        }
        return (rock.bars[p.rung()] & 1 << thing) != 0 ? 3 : 0;
    }

    private At behind(At p, int wind, int deed) {
        if (deed == 0) {
            return new At(p.rung(), p.things(), p.strength() == 4 ? 4 : p.strength() + 1);
        }
        if (deed == 1) {
            long s = rock.tires == null ? p.strength() - 1
                : new Teller(rock.tires, facts(p, wind)).sum();
            return new At(p.rung() + 1, p.things(), (int) (s < 0 ? 0 : s > 4 ? 4 : s));
        }
        if (deed == 2) {
            return new At(p.rung() - 1, p.things(), p.strength());
        }
        return new At(p.rung(), p.things() ^ 1 << deed % 10, p.strength());
    }

    private TreeMap<Integer, At> all(At p, int wind) {
        TreeMap<Integer, At> ends = new TreeMap<>();
        for (int deed = 0; deed < 30; deed++) {
            if (whyNot(p, wind, deed) == 0) {
                ends.put(deed, behind(p, wind, deed));
            }
        }
        return ends;
    }

    private At habitually(At p, int wind) {
        if (whyNot(p, wind, 1) == 0) {
            return behind(p, wind, 1);
        }
        if (p.rung() < rock.top) {
            for (int k = 0; k < 6; k++) {
                if ((p.things() & rock.bars[p.rung() + 1] & 1 << k) != 0) {
                    return behind(p, wind, 10 + k);
                }
            }
        }
        return behind(p, wind, 0);
    }

    // ---- the face

    private boolean isRung(int rung) {
        return 0 <= rung && rung <= rock.top;
    }

    private boolean isSet(int set) {
        return (set & -(1 << rock.things)) == 0;
    }

    private void change(Moment to) {
        past.addLast(now);
        if (past.size() > 10) {
            past.removeFirst();
        }
        now = to;
        reached = null;
    }

    int feed(int... v) {
        if (tape.length() + 20 > 900) {
            return -5;
        }
        for (int i : v) {
            tape.append((char) (i >>> 24)).append((char) (i >> 16 & 255));
            tape.append((char) (i >> 8 & 255)).append((char) (i & 255));
        }
        return tape.length();
    }

    int cliff(int n) {
        if (n < 0 || n > tape.length()) {
            return -3;
        }
        String text = tape.substring(0, n);
        tape = new StringBuilder();
        List<Token> all = tokens(text);
        int[] found = findFault(all);
        fault = found[0];
        place = found[1];
        if (fault != 0) {
            return -30 - fault;
        }
        rock = build(all);
        now = new Moment(rock.start, rock.wind, 0);
        past.clear();
        reached = null;
        return rock.lines;
    }

    int fault(int what) {
        return what == 0 ? fault : what == 1 ? place : NONE;
    }

    int hole(int rung, int what) {
        if (!isRung(rung) || what < 0 || what > 2) {
            return -2;
        }
        return new int[][] {rock.bars, rock.gives, rock.rough}[what][rung];
    }

    int why(int deed) {
        return deed < 0 || deed > 29 ? 1 : whyNot(now.at(), now.wind(), deed);
    }

    int by(int deed, int what) {
        if (what < 0 || what > 2) {
            return -2;
        }
        if (why(deed) != 0) {
            return -5;
        }
        At p = behind(now.at(), now.wind(), deed);
        return new int[] {p.rung(), p.things(), p.strength()}[what];
    }

    int act(int deed) {
        if (why(deed) != 0) {
            return -10 - why(deed);
        }
        change(new Moment(behind(now.at(), now.wind(), deed), now.wind(), now.deeds() + 1));
        return now.at().rung();
    }

    int wind(int n) {
        if (n < 0 || n > 9) {
            return -11;
        }
        int was = now.wind();
        change(new Moment(now.at(), n, now.deeds()));
        return was;
    }

    int habit(int n) {
        if (n < 1 || n > 99) {
            return -3;
        }
        At p = now.at();
        for (int i = 0; i < n; i++) {
            p = habitually(p, now.wind());
        }
        change(new Moment(p, now.wind(), now.deeds() + n));
        return p.rung();
    }

    int undo(int n) {
        if (n < 1 || n > 10 || n > past.size()) {
            return -3;
        }
        for (int i = 0; i < n; i++) {
            now = past.removeLast();
        }
        reached = null;
        return past.size();
    }

    /** Why a number of a tray can't be, 0 if it can. */
    private int whyInTray(Moment m, long v) {
        if (v >= 30 && v <= 39) {
            return 0;
        }
        return v < 0 || v > 29 ? 1 : whyNot(m.at(), m.wind(), (int) v);
    }

    private Moment did(Moment m, int v) {
        if (v >= 30) {
            return new Moment(m.at(), v - 30, m.deeds());
        }
        return new Moment(behind(m.at(), m.wind(), v), m.wind(), m.deeds() + 1);
    }

    int judge(int tray, int what) {
        if (tray < 0 || tray > 3 || what < 0 || what > 3) {
            return -2;
        }
        if (trays[tray] == null) {
            return -6;
        }
        Moment m = now;
        int first = NONE;
        int why = 0;
        for (int i = 0; i < trays[tray].length && first == NONE; i++) {
            why = whyInTray(m, trays[tray][i]);
            if (why != 0) {
                first = i;
            } else {
                m = did(m, (int) trays[tray][i]);
            }
        }
        return new int[] {first, why, m.at().rung(), m.at().things()}[what];
    }

    int perform(int tray) {
        if (tray < 0 || tray > 3) {
            return -2;
        }
        if (trays[tray] == null) {
            return -6;
        }
        int done = judge(tray, 0) == NONE ? trays[tray].length : judge(tray, 0);
        Moment m = now;
        for (int i = 0; i < done; i++) {
            m = did(m, (int) trays[tray][i]);
        }
        if (done > 0) {
            change(m);
        }
        return done;
    }

    int year(int seed, int times) {
        if (times < 1 || times > 40) {
            return -3;
        }
        int[] x = {seed};
        Moment m = now;
        int done = 0;
        for (int i = 0; i < times; i++) {
            int kind = draw(x) % 8;
            int deed = kind == 0 ? 0 : kind < 4 ? 1 : kind == 4 ? 2
                : kind == 5 ? 10 + draw(x) % 6 : 20 + draw(x) % 6;
            if (whyInTray(m, deed) == 0) {
                m = did(m, deed);
                done++;
            }
        }
        if (done > 0) {
            change(m);
        }
        return done;
    }

    private static int draw(int[] x) {
        BigInteger next = BigInteger.valueOf(x[0]).multiply(BigInteger.valueOf(1103515245L));
        x[0] = next.add(BigInteger.valueOf(12345)).intValue();
        return x[0] >>> 16;
    }

    // ---- coming

    private static boolean ahead(List<Integer> a, List<Integer> b) {
        for (int i = 0; i < a.size(); i++) {
            if (!a.get(i).equals(b.get(i))) {
                return a.get(i) < b.get(i);
            }
        }
        return false;
    }

    /** Of every stand the first of the shortest rows to it. */
    private Map<At, List<Integer>> reach() {
        if (reached != null) {
            return reached;
        }
        Map<At, List<Integer>> known = new HashMap<>();
        Map<At, List<Integer>> level = new HashMap<>();
        level.put(now.at(), List.of());
        while (!level.isEmpty()) {
            known.putAll(level);
            Map<At, List<Integer>> next = new HashMap<>();
            for (Map.Entry<At, List<Integer>> e : level.entrySet()) {
                for (Map.Entry<Integer, At> d : all(e.getKey(), now.wind()).entrySet()) {
                    if (known.containsKey(d.getValue())) {
                        continue;
                    }
                    List<Integer> row = new ArrayList<>(e.getValue());
                    row.add(d.getKey());
                    List<Integer> other = next.get(d.getValue());
                    if (other == null || ahead(row, other)) {
                        next.put(d.getValue(), row);
                    }
                }
            }
            level = next;
        }
        reached = known;
        return known;
    }

    private List<Integer> coming(int rung, int set) {
        List<Integer> best = null;
        for (Map.Entry<At, List<Integer>> e : reach().entrySet()) {
            if (e.getKey().rung() != rung || (e.getKey().things() & set) != set) {
                continue;
            }
            List<Integer> row = e.getValue();
            if (best == null || row.size() < best.size()
                || row.size() == best.size() && ahead(row, best)) {
                best = row;
            }
        }
        return best;
    }

    int soonest(int rung, int set) {
        if (!isRung(rung)) {
            return -2;
        }
        if (!isSet(set)) {
            return -3;
        }
        List<Integer> row = coming(rung, set);
        return row == null ? NONE : row.size();
    }

    int way(int rung, int set, int i) {
        if (!isRung(rung)) {
            return -2;
        }
        if (!isSet(set) || i < 0) {
            return -3;
        }
        List<Integer> row = coming(rung, set);
        return row == null || i >= row.size() ? NONE : row.get(i);
    }

    long rows(int rung, int set, int n) {
        if (!isRung(rung)) {
            return -2;
        }
        if (!isSet(set) || n < 0 || n > 10) {
            return -3;
        }
        return rowsFrom(now.at(), rung, set, n, new HashMap<>());
    }

    private long rowsFrom(At p, int rung, int set, int n, Map<String, Long> memo) {
        if (n == 0) {
            return p.rung() == rung && (p.things() & set) == set ? 1 : 0;
        }
        String key = p + " " + n;
        if (!memo.containsKey(key)) {
            long sum = 0;
            for (At q : all(p, now.wind()).values()) {
                sum += rowsFrom(q, rung, set, n - 1, memo);
            }
            memo.put(key, sum);
        }
        return memo.get(key);
    }

    int highest(int set) {
        if (!isSet(set)) {
            return -3;
        }
        int high = NONE;
        for (int rung = 0; rung <= rock.top; rung++) {
            high = coming(rung, set) != null ? rung : high;
        }
        return high;
    }

    int most(int rung, int what) {
        if (!isRung(rung) || what < 0 || what > 1) {
            return -2;
        }
        for (int n = rock.things; n >= 0; n--) {
            for (int set = 0; set < 1 << rock.things; set++) {
                if (Integer.bitCount(set) != n) {
                    continue;
                }
                for (int s = 0; s < 5; s++) {
                    if (reach().containsKey(new At(rung, set, s))) {
                        return what == 0 ? n : set;
                    }
                }
            }
        }
        return NONE;
    }

    int loses(int rung) {
        if (!isRung(rung)) {
            return -2;
        }
        int lost = 0;
        for (int k = 0; k < rock.things; k++) {
            boolean has = (now.at().things() & 1 << k) != 0;
            if (has && coming(rung, 0) != null && coming(rung, 1 << k) == null) {
                lost |= 1 << k;
            }
        }
        return lost;
    }

    int stands() {
        return reach().size();
    }

    // ---- what falls

    private boolean lies(int rung, int thing) {
        return (rock.bars[rung] & 1 << thing) == 0 && (rock.gives[rung] & 1 << thing) == 0;
    }

    int lands(int rung, int thing) {
        if (!isRung(rung) || thing < 0 || thing >= rock.things) {
            return -2;
        }
        int at = NONE;
        for (int r = 0; r < rung; r++) {
            at = lies(r, thing) ? r : at;
        }
        return at;
    }

    int shares(int rung, int set, int what) {
        if (!isRung(rung) || what != 0 && (what < 10 || what >= 10 + rock.things)) {
            return -2;
        }
        if (!isSet(set)) {
            return -3;
        }
        int[] rungs = new int[6];
        int[] best = new int[7];
        best[6] = NONE;
        tryShares(rung, set, 0, rungs, best);
        return what == 0 ? best[6] : best[what - 10];
    }

    /** Tries all ways in their order; of those with as many the first one stays. */
    private void tryShares(int rung, int set, int thing, int[] rungs, int[] best) {
        if (thing == 6) {
            int landed = 0;
            for (int r : rungs) {
                landed += r != NONE ? 1 : 0;
            }
            if (landed > best[6]) {
                System.arraycopy(rungs, 0, best, 0, 6);
                best[6] = landed;
            }
            return;
        }
        for (int r = 0; r <= rung; r++) {
            boolean none = r == rung;
            boolean taken = false;
            for (int k = 0; k < thing; k++) {
                taken |= rungs[k] == r;
            }
            if (none || (set & 1 << thing) != 0 && lies(r, thing) && !taken) {
                rungs[thing] = none ? NONE : r;
                tryShares(rung, set, thing + 1, rungs, best);
            }
        }
    }

    // ---- by habit

    int lies(int n, boolean byHabit) {
        if (n < 0 || n > 99999) {
            return -3;
        }
        At p = now.at();
        for (int i = 0; i < n && byHabit; i++) {
            At q = habitually(p, now.wind());
            if (q.equals(p)) {
                break;
            }
            p = q;
        }
        return p.rung();
    }

    int round(int what) {
        if (what < 0 || what > 1) {
            return -2;
        }
        List<At> all = new ArrayList<>();
        At p = now.at();
        while (!all.contains(p)) {
            all.add(p);
            p = habitually(p, now.wind());
        }
        return what == 0 ? all.indexOf(p) : all.size() - all.indexOf(p);
    }

    int when(int rung) {
        if (!isRung(rung)) {
            return -2;
        }
        At p = now.at();
        for (int i = 0; i < 3000; i++) {
            if (p.rung() == rung) {
                return i;
            }
            p = habitually(p, now.wind());
        }
        return NONE;
    }

    // ---- seen

    private int trayCode(int tray, int places, int least, int greatest) {
        if (tray < 0 || tray > 3) {
            return -2;
        }
        if (trays[tray] == null) {
            return -6;
        }
        if (trays[tray].length < 1 || trays[tray].length > places) {
            return -4;
        }
        for (long v : trays[tray]) {
            if (v < least || v > greatest) {
                return -3;
            }
        }
        return 0;
    }

    private static final class Rows {
        long found = 0;
        int common = -1;
        List<Integer> first = null;
    }

    private Rows look(int tray) {
        Rows rows = new Rows();
        look(trays[tray], now.at(), new ArrayList<>(), rows);
        return rows;
    }

    private void look(long[] seen, At p, List<Integer> row, Rows rows) {
        if (row.size() == seen.length) {
            rows.found++;
            rows.common &= p.things();
            rows.first = rows.first == null ? List.copyOf(row) : rows.first;
            return;
        }
        long wanted = seen[row.size()];
        for (Map.Entry<Integer, At> e : all(p, now.wind()).entrySet()) {
            if (wanted == NONE || wanted == Integer.bitCount(e.getValue().things())) {
                row.add(e.getKey());
                look(seen, e.getValue(), row, rows);
                row.remove(row.size() - 1);
            }
        }
    }

    long seen(int tray) {
        int code = trayCode(tray, 6, NONE, 6);
        return code != 0 ? code : look(tray).found;
    }

    int seenBy(int tray, int i) {
        int code = trayCode(tray, 6, NONE, 6);
        if (code != 0 || i < 0) {
            return code != 0 ? code : -3;
        }
        List<Integer> first = look(tray).first;
        return first == null || i >= first.size() ? NONE : first.get(i);
    }

    int surely(int tray) {
        int code = trayCode(tray, 6, NONE, 6);
        if (code != 0) {
            return code;
        }
        Rows rows = look(tray);
        return rows.found == 0 ? 0 : rows.common;
    }

    // ---- tired

    int winds(int tray) {
        int code = trayCode(tray, 8, 0, 4);
        if (code != 0) {
            return code;
        }
        int bits = 0;
        for (int w = 0; w < 10; w++) {
            bits |= Arrays.equals(strengths(w, trays[tray].length), trays[tray]) ? 1 << w : 0;
        }
        return bits;
    }

    /** How one tires from now on by a wind. */
    long[] strengths(int w, int n) {
        long[] all = new long[n];
        At p = now.at();
        for (int i = 0; i < n; i++) {
            p = behind(p, w, whyNot(p, w, 1) == 0 ? 1 : 0);
            all[i] = p.strength();
        }
        return all;
    }

    int attempt(int tray) {
        int bits = winds(tray);
        if (bits <= 0) {
            return bits == 0 ? NONE : bits;
        }
        int best = NONE;
        int least = 99;
        for (int deed = 0; deed < 3; deed++) {
            Map<At, Integer> ends = new HashMap<>();
            int greatest = 0;
            for (int w = 0; w < 10; w++) {
                if ((bits & 1 << w) != 0) {
                    At p = now.at();
                    At q = whyNot(p, w, deed) == 0 ? behind(p, w, deed) : p;
                    greatest = Math.max(greatest, ends.merge(q, 1, Integer::sum));
                }
            }
            if (greatest < least) {
                least = greatest;
                best = deed;
            }
        }
        return best;
    }

    // ---- gusts, slips

    int withstands(int rung) {
        if (!isRung(rung)) {
            return -2;
        }
        Map<At, Boolean> fewer = null;
        for (int n = 0; n <= 9; n++) {
            Map<At, Boolean> wins = safeFrom(rung, fewer);
            if (!wins.get(now.at())) {
                return n - 1;
            }
            fewer = wins;
        }
        return 9;
    }

    /** Sweeps over all stands till none is won any more; fewer: those won with one gust less. */
    private Map<At, Boolean> safeFrom(int rung, Map<At, Boolean> fewer) {
        Map<At, Boolean> wins = new HashMap<>();
        Map<At, TreeMap<Integer, At>> onward = new HashMap<>();
        for (int r = 0; r <= rock.top; r++) {
            for (int set = 0; set < 1 << rock.things; set++) {
                for (int s = 0; s <= 4; s++) {
                    At p = new At(r, set, s);
                    wins.put(p, r == rung);
                    onward.put(p, all(p, now.wind()));
                }
            }
        }
        boolean more = true;
        while (more) {
            more = false;
            for (At p : onward.keySet()) {
                if (wins.get(p)) {
                    continue;
                }
                for (Map.Entry<Integer, At> e : onward.get(p).entrySet()) {
                    At q = e.getValue();
                    At blown = new At(q.rung(), q.things(), Math.max(0, q.strength() - 1));
                    boolean safe = e.getKey() != 1 || fewer == null || fewer.get(blown);
                    if (wins.get(q) && safe) {
                        wins.put(p, true);
                        more = true;
                        break;
                    }
                }
            }
        }
        return wins;
    }

    /** A fraction's number above over the number below, not shortened. */
    private record Part(BigInteger above, BigInteger below) {
        boolean more(Part other) {
            return above.multiply(other.below).compareTo(other.above.multiply(below)) > 0;
        }

        Part mixed(int parts, Part other, int otherParts) {
            BigInteger a = above.multiply(other.below).multiply(BigInteger.valueOf(parts));
            BigInteger b = other.above.multiply(below).multiply(BigInteger.valueOf(otherParts));
            BigInteger c = below.multiply(other.below).multiply(BigInteger.TEN);
            BigInteger sum = a.add(b);
            BigInteger g = sum.gcd(c);
            return new Part(sum.divide(g), c.divide(g));
        }
    }

    private Part byDeed(At p, int deed, At q, int rung, int n, Map<String, Part> memo) {
        Part come = likely(q, rung, n - 1, memo);
        if (deed != 1) {
            return come;
        }
        At slipped = new At(p.rung(), q.things(), q.strength());
        return come.mixed(10 - rock.slips, likely(slipped, rung, n - 1, memo), rock.slips);
    }

    private Part likely(At p, int rung, int n, Map<String, Part> memo) {
        if (p.rung() == rung) {
            return new Part(BigInteger.ONE, BigInteger.ONE);
        }
        Part best = new Part(BigInteger.ZERO, BigInteger.ONE);
        if (n == 0) {
            return best;
        }
        String key = p + " " + n;
        if (memo.containsKey(key)) {
            return memo.get(key);
        }
        for (Map.Entry<Integer, At> e : all(p, now.wind()).entrySet()) {
            Part part = byDeed(p, e.getKey(), e.getValue(), rung, n, memo);
            best = part.more(best) ? part : best;
        }
        memo.put(key, best);
        return best;
    }

    int chance(int rung, int n, int what) {
        if (!isRung(rung) || what < 0 || what > 1) {
            return -2;
        }
        if (n < 0 || n > 8) {
            return -3;
        }
        Part part = likely(now.at(), rung, n, new HashMap<>());
        BigInteger g = part.above().gcd(part.below());
        return (what == 0 ? part.above() : part.below()).divide(g).intValueExact();
    }

    int best(int rung, int n) {
        if (!isRung(rung)) {
            return -2;
        }
        if (n < 0 || n > 8) {
            return -3;
        }
        Map<String, Part> memo = new HashMap<>();
        Part goal = likely(now.at(), rung, n, memo);
        if (now.at().rung() == rung || goal.above().signum() == 0) {
            return NONE;
        }
        for (Map.Entry<Integer, At> e : all(now.at(), now.wind()).entrySet()) {
            Part part = byDeed(now.at(), e.getKey(), e.getValue(), rung, n, memo);
            if (!goal.more(part)) {
                return e.getKey();
            }
        }
        return NONE;
    }

    // ---- trays, images

    int numbers(int tray, int sort, int n) {
        if (tray < 0 || tray > 3 || sort < 0 || sort > 3) {
            return -2;
        }
        if (n < 0 || n > 40) {
            return -3;
        }
        trays[tray] = new long[n];
        sorts[tray] = sort;
        return 0;
    }

    long write(int tray, int i, long v) {
        if (tray < 0 || tray > 3) {
            return -2;
        }
        if (trays[tray] == null) {
            return -6;
        }
        if (i < 0 || i >= trays[tray].length) {
            return -7;
        }
        int cut = 64 - (8 << sorts[tray]);
        trays[tray][i] = v << cut >> cut;
        return trays[tray][i];
    }

    int lists(int tray, int rung, int set) {
        if (tray < 0 || tray > 3 || !isRung(rung)) {
            return -2;
        }
        if (trays[tray] == null) {
            return -6;
        }
        if (!isSet(set)) {
            return -3;
        }
        List<Integer> row = coming(rung, set);
        if (row == null) {
            return -5;
        }
        int n = Math.min(row.size(), trays[tray].length);
        for (int i = 0; i < n; i++) {
            trays[tray][i] = row.get(i);
        }
        return n;
    }

    int image(int i) {
        if (i < 0 || i > 1) {
            return -2;
        }
        // A rock is never changed once it is built, so it may be kept as it is.
        imageRocks[i] = rock;
        imageMoments[i] = now;
        return 0;
    }

    int restore(int i) {
        if (i < 0 || i > 1) {
            return -2;
        }
        if (imageRocks[i] == null) {
            return -5;
        }
        rock = imageRocks[i];
        now = imageMoments[i];
        past.clear();
        reached = null;
        return 0;
    }

    int count(int what) {
        int[] all = {rock.top, rock.things, now.at().rung(), now.at().things(), now.at().strength(),
            now.wind(), now.deeds(), past.size(), tape.length(), rock.lines};
        return what < 0 || what > 9 ? NONE : all[what];
    }
}
