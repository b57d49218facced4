import java.util.ArrayDeque;
import java.util.ArrayList;
import java.util.Arrays;
import java.util.Comparator;
import java.util.Deque;
import java.util.List;
import java.util.NoSuchElementException;
import java.util.TreeMap;

/**
 * The document once more, as slowly and plainly as can be: whole copies for each ACT, all rows
 * walked one by one, texts cut apart as strings. It shares no code with the class under test.
 */
public final class PlainModel {
    private static final int NONE = -1;
    private static final int HIDDEN = -1000000;

    private static final class State {
        int at = NONE;
        int hour;
        int tired;
        int seenToday;
        int seenInAll;
        int secrets;
        int day;
        int[] visits;
        int[] troubles;
        int[] patience;
        List<int[]> log = new ArrayList<>();

        State copy() {
            State other = new State();
            other.at = at;
            other.hour = hour;
            other.tired = tired;
            other.seenToday = seenToday;
            other.seenInAll = seenInAll;
            other.secrets = secrets;
            other.day = day;
            other.visits = visits.clone();
            other.troubles = troubles.clone();
            other.patience = patience.clone();
            other.log = new ArrayList<>(log);
            return other;
        }
    }

    private record Put(int place, int t, boolean had) { }

    private record Way(int row, TreeMap<Integer, Integer> comes) {
        boolean been(int place, int t) {
            return comes.containsKey(place) && comes.get(place) <= t;
        }
    }

    private String tape = "";
    private TreeMap<Character, Integer> rules;
    private List<TreeMap<Character, Integer>> places = new ArrayList<>();
    private final List<String> laws = new ArrayList<>();
    private final List<String> days = new ArrayList<>();
    private final List<Put> puts = new ArrayList<>();
    private int holding = NONE;
    private int gout = 2;
    private State now = new State();
    private State image;
    private final Deque<State> acts = new ArrayDeque<>();

    // ---- texts ----

    public int feed(int a, int b, int c, int d, int e) {
        StringBuilder more = new StringBuilder(tape);
        for (int number : new int[] {a, b, c, d, e}) {
            for (byte one : java.nio.ByteBuffer.allocate(4).putInt(number).array()) {
                if (one != 0) {
                    more.append((char) (one & 255));
                }
            }
        }
        if (more.length() > 240) {
            return NONE;
        }
        tape = more.toString();
        return tape.length();
    }

    public boolean end(int n) {
        if (n < 0 || n > tape.length()) {
            return false;
        }
        tape = tape.substring(0, n);
        return true;
    }

    public int fault(int sort) {
        return sort == 0 ? cityFault() : sort == 1 ? lawFault() : sort == 2 ? daysFault() : -2;
    }

    private static boolean digit(char c) {
        return c >= '0' && c <= '9';
    }

    private int digitsFrom(int i) {
        int j = i;
        while (j < tape.length() && digit(tape.charAt(j))) {
            j++;
        }
        return j - i;
    }

    private static int[] bounds(char clause, char letter) {
        switch ("" + clause + letter) {
            case "sb": case "sh": return new int[] {1, 60};
            case "sc": case "px": case "py": case "pv": return new int[] {0, 9};
            case "pk": return new int[] {0, 3};
            case "po": return new int[] {0, 30};
            default: return null;
        }
    }

    private int cityFault() {
        char clause = 0;
        char letter = 0;
        String told = "";
        int s = 0;
        int p = 0;
        int i = 0;
        while (i < tape.length()) {
            char c = tape.charAt(i);
            if (c == ' ') {
                i++;
            } else if (clause == 0) {
                if (c == 's' && s == 0) {
                    s = 1;
                } else if (c == 'p' && p < 7) {
                    p++;
                } else {
                    return i;
                }
                clause = c;
                told = "";
                i++;
            } else if (letter != 0) {
                int many = digitsFrom(i);
                if (many == 0) {
                    return i;
                }
                if (many > 2) {
                    return i + 2;
                }
                int value = Integer.parseInt(tape.substring(i, i + many));
                int[] b = bounds(clause, letter);
                if (value < b[0] || value > b[1]) {
                    return i + many - 1;
                }
                letter = 0;
                i += many;
            } else if (c == ';') {
                clause = 0;
                i++;
            } else if (bounds(clause, c) != null && told.indexOf(c) < 0) {
                told += c;
                letter = c;
                i++;
            } else {
                return i;
            }
        }
        if (clause == 0 || letter != 0 || p < 2) {
            return tape.length();
        }
        List<String> seen = new ArrayList<>();
        for (TreeMap<Character, Integer> place : toldPlaces(tape)) {
            String where = place.get('x') + "," + place.get('y');
            if (seen.contains(where)) {
                return tape.length();
            }
            seen.add(where);
        }
        return NONE;
    }

    private static List<TreeMap<Character, Integer>> toldClauses(String text, char wanted) {
        List<TreeMap<Character, Integer>> found = new ArrayList<>();
        for (String clause : text.replace(" ", "").split(";")) {
            if (clause.charAt(0) == wanted) {
                TreeMap<Character, Integer> items = new TreeMap<>();
                java.util.regex.Matcher m = java.util.regex.Pattern.compile("([a-z])([0-9]+)").matcher(clause.substring(1));
                while (m.find()) {
                    items.put(m.group(1).charAt(0), Integer.parseInt(m.group(2)));
                }
                found.add(items);
            }
        }
        return found;
    }

    private static List<TreeMap<Character, Integer>> toldPlaces(String text) {
        List<TreeMap<Character, Integer>> found = toldClauses(text, 'p');
        for (TreeMap<Character, Integer> items : found) {
            items.putIfAbsent('x', 0);
            items.putIfAbsent('y', 0);
            items.putIfAbsent('k', 0);
            items.putIfAbsent('v', 3);
            items.putIfAbsent('o', 6);
        }
        return found;
    }

    private int daysFault() {
        int steps = 0;
        boolean begun = false;
        boolean wantsDigit = false;
        for (int i = 0; i < tape.length(); i++) {
            char c = tape.charAt(i);
            if (c == ' ') {
                continue;
            }
            if (wantsDigit) {
                if (!digit(c)) {
                    return i;
                }
                wantsDigit = false;
            } else if (!begun) {
                if ("wrbd".indexOf(c) < 0) {
                    return i;
                }
                begun = true;
                steps++;
                wantsDigit = c == 'w' || c == 'b';
            } else {
                if (c != ';' || steps == 16) {
                    return i;
                }
                begun = false;
            }
        }
        return begun && !wantsDigit ? NONE : tape.length();
    }

    /**
     * A pushdown machine. open holds what stands around: c a clause whose SUM may turn out to begin a
     * CONDITION, s its SUM for sure, l and r the left and right of a comparison, and ( [ !.
     */
    private int lawFault() {
        String open = "";
        String wants = "y";
        int i = 0;
        while (i < tape.length()) {
            char c = tape.charAt(i);
            if (c == ' ') {
                i++;
                continue;
            }
            int step = 1;
            switch (wants) {
                case "y":
                    if (c != 'y') {
                        return i;
                    }
                    wants = ":";
                    break;
                case ":":
                    if (c != ':') {
                        return i;
                    }
                    wants = "begin";
                    break;
                case "begin":
                case "unit":
                    if (c == '!' || c == '(') {
                        if (nested(open) == 6) {
                            return i;
                        }
                        open += c;
                        wants = "unit";
                        break;
                    }
                    open += wants.equals("begin") ? 'c' : 'l';
                    wants = "atom";
                    continue;
                case "atom":
                    if (c == '[') {
                        if (nested(open) == 6) {
                            return i;
                        }
                        open += c;
                    } else if (digit(c)) {
                        step = digitsFrom(i);
                        if (step > 4) {
                            return i + 4;
                        }
                        wants = "behind";
                    } else if ("kvohnt".indexOf(c) >= 0) {
                        wants = "behind";
                    } else {
                        return i;
                    }
                    break;
                default:
                    String[] next = behind(open, wants, c);
                    if (next == null) {
                        return i;
                    }
                    open = next[0];
                    wants = next[1];
            }
            i += step;
        }
        boolean ended = wants.equals("behind") && (open.equals("c") || open.equals("s"));
        return ended ? NONE : tape.length();
    }

    private static int nested(String open) {
        return open.replaceAll("[^(\\[!]", "").length();
    }

    /** What a sign behind a whole ATOM (or, wants "unitEnd", behind a whole UNIT) leads to; null: it can't stand there. */
    private static String[] behind(String open, String wants, char c) {
        boolean unitEnd = wants.equals("unitEnd");
        char top = open.isEmpty() ? 0 : open.charAt(open.length() - 1);
        String less = open.isEmpty() ? "" : open.substring(0, open.length() - 1);
        if (!unitEnd && "+-*/".indexOf(c) >= 0) {
            return new String[] {open, "atom"};
        }
        if (!unitEnd && c == ']') {
            return top == '[' ? new String[] {less, "behind"} : null;
        }
        if (!unitEnd && "=<>".indexOf(c) >= 0) {
            return top == 'c' || top == 'l' ? new String[] {less + 'r', "atom"} : null;
        }
        if (!unitEnd && c == ';') {
            return top == 'c' || top == 's' ? new String[] {"", "y"} : null;
        }
        if (!unitEnd && top != 'r') {
            return null;
        }
        String around = (unitEnd ? open : less).replaceAll("!+$", "");
        if (c == '&' || c == '|') {
            return new String[] {around, "unit"};
        }
        if (c == ')') {
            return around.endsWith("(") ? new String[] {around.substring(0, around.length() - 1), "unitEnd"} : null;
        }
        return c == '?' && around.isEmpty() ? new String[] {"s", "atom"} : null;
    }

    public int text(int sort) {
        if (fault(sort) != NONE) {
            return NONE;
        }
        int answer;
        if (sort == 0) {
            places = toldPlaces(tape);
            List<TreeMap<Character, Integer>> told = toldClauses(tape, 's');
            rules = told.isEmpty() ? new TreeMap<>() : told.get(0);
            rules.putIfAbsent('b', 30);
            rules.putIfAbsent('h', 40);
            rules.putIfAbsent('c', 2);
            now = new State();
            now.visits = new int[places.size()];
            now.troubles = new int[places.size()];
            now.patience = places.stream().mapToInt(p -> p.get('o')).toArray();
            puts.clear();
            acts.clear();
            image = null;
            answer = places.size();
        } else {
            List<String> kept = sort == 1 ? laws : days;
            if (kept.size() == 4) {
                return NONE;
            }
            kept.add(tape.replace(" ", ""));
            answer = kept.size() - 1;
        }
        tape = "";
        return answer;
    }

    public int rule(int what) {
        return places.isEmpty() || what < 0 || what > 2 ? NONE : rules.get("bhc".charAt(what));
    }

    private boolean place(int p) {
        return p >= 0 && p < places.size();
    }

    public int spot(int p, int what) {
        if (!place(p) || what < 0 || what > 6) {
            throw new NoSuchElementException();
        }
        if (what < 4) {
            return places.get(p).get("xykv".charAt(what));
        }
        return what == 4 ? now.patience[p] : what == 5 ? now.troubles[p] : now.visits[p];
    }

    public boolean law(int law) {
        if (law < -1 || law >= laws.size()) {
            return false;
        }
        holding = law;
        return true;
    }

    public boolean gout(int v) {
        if (v < 0 || v > 9 || v == gout) {
            return false;
        }
        gout = v;
        return true;
    }

    private int way(int one, int other) {
        int x1 = one < 0 ? 0 : places.get(one).get('x');
        int y1 = one < 0 ? 0 : places.get(one).get('y');
        int x2 = other < 0 ? 0 : places.get(other).get('x');
        int y2 = other < 0 ? 0 : places.get(other).get('y');
        return Math.abs(x1 - x2) + Math.abs(y1 - y2);
    }

    public int steps(int one, int other) {
        if (!place(other) || one != NONE && !place(one)) {
            return NONE;
        }
        return way(one == NONE ? now.at : one, other);
    }

    // ---- WORTH ----

    private static long hold(long low, long high, long v) {
        return Math.max(low, Math.min(high, v));
    }

    private static int lastOutside(String text, String signs) {
        int depth = 0;
        for (int i = text.length() - 1; i >= 0; i--) {
            char c = text.charAt(i);
            if (c == ')' || c == ']') {
                depth++;
            } else if (c == '(' || c == '[') {
                depth--;
            } else if (depth == 0 && signs.indexOf(c) >= 0) {
                return i;
            }
        }
        return -1;
    }

    private static long sum(String text, int[] letters) {
        for (String signs : new String[] {"+-", "*/"}) {
            int i = lastOutside(text, signs);
            if (i >= 0) {
                long left = sum(text.substring(0, i), letters);
                long right = sum(text.substring(i + 1), letters);
                long v;
                switch (text.charAt(i)) {
                    case '+': v = left + right; break;
                    case '-': v = left - right; break;
                    case '*': v = left * right; break;
                    default: v = right == 0 ? 0 : left / right;
                }
                return hold(-1000000, 1000000, v);
            }
        }
        if (text.charAt(0) == '[') {
            return sum(text.substring(1, text.length() - 1), letters);
        }
        int letter = "kvohnt".indexOf(text.charAt(0));
        return letter >= 0 ? letters[letter] : Long.parseLong(text);
    }

    private static boolean holds(String text, int[] letters) {
        int i = lastOutside(text, "|");
        if (i >= 0) {
            return holds(text.substring(0, i), letters) || holds(text.substring(i + 1), letters);
        }
        i = lastOutside(text, "&");
        if (i >= 0) {
            return holds(text.substring(0, i), letters) && holds(text.substring(i + 1), letters);
        }
        if (text.charAt(0) == '!') {
            return !holds(text.substring(1), letters);
        }
        if (text.charAt(0) == '(') {
            return holds(text.substring(1, text.length() - 1), letters);
        }
        i = lastOutside(text, "=<>");
        long left = sum(text.substring(0, i), letters);
        long right = sum(text.substring(i + 1), letters);
        char c = text.charAt(i);
        return c == '=' ? left == right : c == '<' ? left < right : left > right;
    }

    private int trouble(State s, int p, int more, int consideration) {
        if (holding == NONE) {
            return (int) hold(0, 30, 4 + 2L * s.visits[p] - consideration);
        }
        int way = way(s.at, p);
        int[] letters = {places.get(p).get('k'), places.get(p).get('v') + more, s.patience[p], s.hour + way,
            s.visits[p], s.tired + way};
        for (String clause : laws.get(holding).split(";")) {
            String[] parts = clause.substring(2).split("\\?");
            if (parts.length == 1 || holds(parts[0], letters)) {
                return (int) hold(0, 30, sum(parts[parts.length - 1], letters));
            }
        }
        return 0;
    }

    // ---- ACTS ----

    private int walkIn(State s, int p, int consideration) {
        if (!place(p) || p == s.at) {
            return NONE;
        }
        int way = way(s.at, p);
        if (s.tired + way > rules.get('b') || s.hour + way + 1 > rules.get('h')) {
            return NONE;
        }
        int trouble = trouble(s, p, 0, consideration);
        s.at = p;
        s.tired += way;
        s.hour += way + 1;
        if (s.visits[p] == 0) {
            s.seenToday += places.get(p).get('v');
            s.seenInAll += places.get(p).get('v');
        }
        s.visits[p]++;
        s.troubles[p] += trouble;
        s.secrets |= 1 << p;
        return trouble;
    }

    private int walkIn(State s, int p) {
        return places.isEmpty() ? NONE : walkIn(s, p, rules.get('c'));
    }

    private int readIn(State s) {
        if (places.isEmpty() || s.tired == 0 || s.hour + 1 > rules.get('h')) {
            return NONE;
        }
        s.hour++;
        s.tired = Math.max(0, s.tired - 3);
        return s.tired;
    }

    private int restoreIn(State s, int p) {
        if (!place(p) || (s.secrets & 1 << p) == 0) {
            return NONE;
        }
        s.secrets -= 1 << p;
        s.troubles[p] = s.troubles[p] / 2;
        return s.troubles[p];
    }

    private int dayIn(State s) {
        if (places.isEmpty() || s.day == 999) {
            return NONE;
        }
        s.log.add(0, new int[] {s.hour, s.seenToday, tooMuch(s)});
        if (s.log.size() > 60) {
            s.log.remove(60);
        }
        s.at = NONE;
        s.hour = 0;
        s.tired = 0;
        s.seenToday = 0;
        Arrays.fill(s.visits, 0);
        for (int p = 0; p < places.size(); p++) {
            s.troubles[p] = Math.max(0, s.troubles[p] - rules.get('c'));
        }
        return ++s.day;
    }

    private int tooMuch(State s) {
        int bits = 0;
        for (int p = 0; p < places.size(); p++) {
            if (s.troubles[p] > s.patience[p]) {
                bits += 1 << p;
            }
        }
        return bits;
    }

    private int acted(State next, int answer) {
        if (answer != NONE) {
            acts.push(now);
            if (acts.size() > 40) {
                acts.removeLast();
            }
            now = next;
        }
        return answer;
    }

    public int walk(int p) {
        if (places.isEmpty()) {
            return NONE;
        }
        State next = now.copy();
        return acted(next, walkIn(next, p));
    }

    public int ledge() {
        if (places.isEmpty()) {
            return NONE;
        }
        State next = now.copy();
        return acted(next, readIn(next));
    }

    public int restore(int p) {
        if (places.isEmpty()) {
            return NONE;
        }
        State next = now.copy();
        return acted(next, restoreIn(next, p));
    }

    public int patience(int p, int v) {
        if (!place(p) || v < 0 || v > 30 || now.patience[p] == v) {
            return NONE;
        }
        State next = now.copy();
        next.patience[p] = v;
        return acted(next, now.patience[p]);
    }

    public int day() {
        if (places.isEmpty()) {
            return NONE;
        }
        State next = now.copy();
        return acted(next, dayIn(next));
    }

    public int years(int n, long seed) {
        if (places.isEmpty() || n < 1 || n > 60) {
            return NONE;
        }
        int walks = 0;
        java.math.BigInteger x = java.math.BigInteger.valueOf(seed);
        for (int i = 0; i < n; i++) {
            State next = now.copy();
            x = drawnBehind(x);
            if (draw(x, 10) < gout) {
                dayIn(next);
            } else {
                x = drawnBehind(x);
                if (walkIn(next, draw(x, places.size())) != NONE) {
                    walks++;
                } else {
                    readIn(next);
                }
            }
            acted(next, 0);
        }
        return walks;
    }

    private static java.math.BigInteger drawnBehind(java.math.BigInteger x) {
        return x.multiply(new java.math.BigInteger("6364136223846793005"))
                .add(new java.math.BigInteger("1442695040888963407"))
                .mod(java.math.BigInteger.ONE.shiftLeft(64));
    }

    private static int draw(java.math.BigInteger x, int j) {
        return x.shiftRight(33).mod(java.math.BigInteger.valueOf(j)).intValue();
    }

    public int undo() {
        if (acts.isEmpty()) {
            return NONE;
        }
        now = acts.pop();
        return acts.size();
    }

    public int log(int i, int what) {
        return i < 0 || i >= now.log.size() || what < 0 || what > 2 ? NONE : now.log.get(i)[what];
    }

    // ---- DAYS told ----

    private String[] stepsOf(int told) {
        return told < 0 || told >= days.size() ? null : days.get(told).split(";");
    }

    public int step(int told, int i, int what) {
        String[] steps = stepsOf(told);
        if (steps == null || i < 0 || i >= steps.length || what < 0 || what > 1) {
            return HIDDEN;
        }
        if (what == 0) {
            return "wrbd".indexOf(steps[i].charAt(0));
        }
        return steps[i].length() == 1 ? NONE : steps[i].charAt(1) - '0';
    }

    private int doStep(State s, String step) {
        switch (step.charAt(0)) {
            case 'w': return walkIn(s, step.charAt(1) - '0');
            case 'r': return readIn(s);
            case 'b': return restoreIn(s, step.charAt(1) - '0');
            default: return dayIn(s);
        }
    }

    public int run(int told, int what) {
        String[] steps = stepsOf(told);
        if (steps == null || places.isEmpty() || what < 0 || what > 1) {
            return HIDDEN;
        }
        State s = now.copy();
        int stuck = NONE;
        for (int i = 0; i < steps.length && stuck == NONE; i++) {
            if (doStep(s, steps[i]) == NONE) {
                stuck = i;
            }
        }
        return what == 0 ? stuck : s.seenInAll - now.seenInAll;
    }

    public int perform(int told) {
        String[] steps = stepsOf(told);
        if (steps == null || places.isEmpty()) {
            return NONE;
        }
        for (int i = 0; i < steps.length; i++) {
            State next = now.copy();
            if (acted(next, doStep(next, steps[i])) == NONE) {
                return i;
            }
        }
        return steps.length;
    }

    // ---- what would be ----

    public int troubles(int p) {
        return place(p) ? trouble(now, p, 0, rules.get('c')) : NONE;
    }

    private record Tried(long row, int length, int value, int hour) { }

    private void rowsFrom(State s, int set, long row, int length, List<Tried> found, boolean seen) {
        boolean whole = seen ? (tooMuch(s) & ~tooMuch(now)) == 0 : set == 0;
        if (whole) {
            int value = seen ? s.seenToday - now.seenToday : Arrays.stream(s.troubles).sum() - Arrays.stream(now.troubles).sum();
            found.add(new Tried(row, length, value, s.hour));
        }
        for (int p = 0; p < places.size(); p++) {
            if ((set & 1 << p) != 0) {
                State next = s.copy();
                if (walkIn(next, p) != NONE) {
                    rowsFrom(next, set - (1 << p), row * 10 + p, length + 1, found, seen);
                }
            }
        }
    }

    public int sees(int what) {
        if (places.isEmpty() || what < 0 || what > 2) {
            return NONE;
        }
        List<Tried> found = new ArrayList<>();
        rowsFrom(now, (1 << places.size()) - 1, 0, 0, found, true);
        found.sort(Comparator.comparingInt((Tried t) -> -t.value()).thenComparingInt(Tried::length).thenComparingLong(Tried::row));
        Tried best = found.get(0);
        return what == 0 ? best.length() == 0 ? NONE : (int) best.row() : what == 1 ? best.value() : best.hour();
    }

    private boolean set(int bits) {
        return !places.isEmpty() && bits >= 1 && bits <= (1 << places.size()) - 1;
    }

    public int least(int bits, int what) {
        if (!set(bits) || what < 0 || what > 1) {
            return NONE;
        }
        List<Tried> found = new ArrayList<>();
        rowsFrom(now, bits, 0, 0, found, false);
        if (found.isEmpty()) {
            return NONE;
        }
        found.sort(Comparator.comparingInt(Tried::value).thenComparingLong(Tried::row));
        return what == 0 ? (int) found.get(0).row() : found.get(0).value();
    }

    public int manners(int bits) {
        if (!set(bits) || holding != NONE) {
            return NONE;
        }
        for (int more = 0; rules.get('c') + more <= 9; more++) {
            State s = now.copy();
            for (int p = 0; p < places.size(); p++) {
                if ((bits & 1 << p) != 0) {
                    walkIn(s, p, rules.get('c') + more);
                }
            }
            if (tooMuch(s) == 0) {
                return more;
            }
        }
        return NONE;
    }

    public int noted(int p, int t, boolean had) {
        if (!place(p) || t < 0 || t > 60 || puts.size() == 10) {
            return NONE;
        }
        puts.add(new Put(p, t, had));
        return puts.size();
    }

    private List<Way> fitting(int k) {
        List<Way> found = new ArrayList<>();
        int many = (int) Math.pow(10, k);
        for (int row = 0; row < many; row++) {
            TreeMap<Integer, Integer> comes = new TreeMap<>();
            int at = NONE;
            int hour = 0;
            String digits = String.format("%0" + k + "d", row);
            for (char c : digits.toCharArray()) {
                int p = c - '0';
                if (!place(p) || comes.containsKey(p)) {
                    break;
                }
                hour += way(at, p);
                comes.put(p, hour);
                hour++;
                at = p;
            }
            Way way = new Way(row, comes);
            if (comes.size() == k && puts.stream().allMatch(u -> way.been(u.place(), u.t()) == u.had())) {
                found.add(way);
            }
        }
        return found;
    }

    public int ways(int k, int i) {
        if (places.isEmpty() || k < 1 || k > 4) {
            return NONE;
        }
        List<Way> found = fitting(k);
        return i == NONE ? found.size() : i < 0 || i >= found.size() ? NONE : found.get(i).row();
    }

    public int ask(int k, int t) {
        if (places.isEmpty() || k < 1 || k > 4 || t < 0 || t > 60) {
            return NONE;
        }
        List<Way> found = fitting(k);
        int best = NONE;
        long bestApart = Long.MAX_VALUE;
        for (int p = 0; p < places.size() && !found.isEmpty(); p++) {
            int place = p;
            long yes = found.stream().filter(w -> w.been(place, t)).count();
            long apart = Math.abs(yes - (found.size() - yes));
            if (apart < bestApart) {
                best = p;
                bestApart = apart;
            }
        }
        return best;
    }

    public int always(int k) {
        if (places.isEmpty() || k < 1 || k > 4) {
            return NONE;
        }
        List<Way> found = fitting(k);
        int bits = 0;
        for (int p = 0; p < places.size(); p++) {
            int place = p;
            if (found.stream().allMatch(w -> w.comes().containsKey(place))) {
                bits += 1 << p;
            }
        }
        return found.isEmpty() ? NONE : bits;
    }

    public int round(int p) {
        if (!place(p)) {
            return NONE;
        }
        List<Integer> order = new ArrayList<>();
        for (int i = 0; i < places.size(); i++) {
            order.add(i);
        }
        order.sort(Comparator.comparingInt(i -> places.get(i).get('k')));
        int hour = 0;
        int at = NONE;
        for (int i : order) {
            hour += way(at, i);
            if (i == p) {
                break;
            }
            hour += 2;
            at = i;
        }
        return hour;
    }

    private int[] row(int row, int n) {
        if (places.isEmpty() || n < 1 || n > 7 || row < 0) {
            return null;
        }
        String digits = String.format("%0" + n + "d", row);
        int[] found = digits.chars().map(c -> c - '0').toArray();
        boolean good = digits.length() == n && Arrays.stream(found).allMatch(this::place)
                && Arrays.stream(found).distinct().count() == n;
        return good ? found : null;
    }

    public int meets(int row, int n) {
        int[] told = row(row, n);
        if (told == null) {
            return NONE;
        }
        State s = now.copy();
        for (int p : told) {
            if (walkIn(s, p) == NONE) {
                return NONE;
            }
            int his = s.hour - 1;
            if (his == round(p) || his == round(p) + 1) {
                return p;
            }
        }
        return NONE;
    }

    public int game(int one, int other, int x, int y, int what) {
        if (!place(one) || !place(other) || one == other || x < 0 || x > 3 || y < 0 || y > 3 || what < 0 || what > 1) {
            return HIDDEN;
        }
        int v1 = places.get(one).get('v') + x;
        int v2 = places.get(other).get('v') + y;
        int w1 = way(now.at, one);
        int w2 = way(now.at, other);
        boolean first = v1 > v2 || v1 == v2 && (w1 < w2 || w1 == w2 && one < other);
        if (what == 0) {
            return first ? 8 - trouble(now, one, x, rules.get('c')) - x : -x;
        }
        return first ? -y : 8 - trouble(now, other, y, rules.get('c')) - y;
    }

    public int rests(int one, int other, int i) {
        if (!place(one) || !place(other) || one == other) {
            return NONE;
        }
        List<Integer> found = new ArrayList<>();
        for (int x = 0; x < 4; x++) {
            for (int y = 0; y < 4; y++) {
                boolean rest = true;
                for (int z = 0; z < 4; z++) {
                    rest &= game(one, other, z, y, 0) <= game(one, other, x, y, 0);
                    rest &= game(one, other, x, z, 1) <= game(one, other, x, y, 1);
                }
                if (rest) {
                    found.add(10 * x + y);
                }
            }
        }
        return i == NONE ? found.size() : i < 0 || i >= found.size() ? NONE : found.get(i);
    }

    public int odds(int row, int n, int chance) {
        int[] told = row(row, n);
        if (told == null || chance < 0 || chance > 100) {
            return NONE;
        }
        long sum = 0;
        for (int rain = 0; rain < 1 << n; rain++) {
            long part = 1000000000L;
            State s = now.copy();
            boolean can = true;
            for (int i = 0; i < n; i++) {
                long wet = part * chance / 100;
                boolean rains = (rain & 1 << i) != 0;
                part = rains ? wet : part - wet;
                s.hour += rains ? 1 : 0;
                can = can && walkIn(s, told[i]) != NONE;
            }
            sum += can ? part : 0;
        }
        return (int) sum;
    }

    // ---- what is ----

    public int cost(int p) {
        return place(p) ? way(now.at, p) + way(p, NONE) : NONE;
    }

    private int first(java.util.function.IntUnaryOperator merit) {
        int best = NONE;
        for (int p = places.size() - 1; p >= 0; p--) {
            if (best == NONE || merit.applyAsInt(p) >= merit.applyAsInt(best)) {
                best = p;
            }
        }
        return best;
    }

    public int all(int what) {
        if (places.isEmpty()) {
            return NONE;
        }
        switch (what) {
            case 0: return now.secrets;
            case 1: return tooMuch(now);
            case 2: return first(p -> now.patience[p] - now.troubles[p]);
            case 3: return first(p -> now.troubles[p]);
            case 4: return first(p -> places.get(p).get('v'));
            case 5: return first(p -> way(NONE, p));
            case 6: return first(p -> p == now.at ? -99 : -way(now.at, p));
            case 7:
                int bits = 0;
                for (int p = 0; p < places.size(); p++) {
                    if (walkIn(now.copy(), p) != NONE) {
                        bits += 1 << p;
                    }
                }
                return bits;
            case 8: return rules.get('b') - now.tired;
            case 9:
                int most = 0;
                for (int p = 0; p < places.size(); p++) {
                    for (int q = 0; q < places.size(); q++) {
                        most = Math.max(most, way(p, q));
                    }
                }
                return most;
            default: return NONE;
        }
    }

    public int kinds(int kind) {
        if (places.isEmpty() || kind < 0 || kind > 3) {
            return NONE;
        }
        int bits = 0;
        for (int p = 0; p < places.size(); p++) {
            bits += places.get(p).get('k') == kind ? 1 << p : 0;
        }
        return bits;
    }

    public int calm(int p) {
        if (!place(p)) {
            return NONE;
        }
        State s = now.copy();
        s.day = 0;
        for (int d = 0; d <= 60; d++) {
            if (s.troubles[p] <= s.patience[p]) {
                return d;
            }
            dayIn(s);
        }
        return NONE;
    }

    public int image() {
        if (places.isEmpty()) {
            return NONE;
        }
        image = now.copy();
        return now.day;
    }

    public int back() {
        if (image == null) {
            return NONE;
        }
        now = image.copy();
        acts.clear();
        return now.day;
    }

    public int count(int what) {
        int[] all = {places.size(), laws.size(), days.size(), tape.length(), holding, now.day, now.hour, now.tired,
            now.at, now.seenToday, now.seenInAll, gout, puts.size(), now.log.size(), acts.size()};
        return what < 0 || what >= all.length ? HIDDEN : all[what];
    }
}
