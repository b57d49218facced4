import java.lang.reflect.InvocationTargetException;
import java.lang.reflect.Method;
import java.util.ArrayList;
import java.util.List;
import java.util.Random;
import java.util.TreeMap;

/** Long runs of drawn calls on the class and on PlainModel: every answer has to be the same. */
public final class PlainModelTest {
    private static final int CALLS = 512;

    private final Random random;
    private final FreeAlderman real = new FreeAlderman();
    private final PlainModel plain = new PlainModel();
    private final List<String> story = new ArrayList<>();
    private static final TreeMap<String, Method> REAL = methodsOf(FreeAlderman.class);
    private static final TreeMap<String, Method> PLAIN = methodsOf(PlainModel.class);
    /** Of each method: how often it was called, and how often it did not refuse. */
    private static final TreeMap<String, int[]> SEEN = new TreeMap<>();

    private PlainModelTest(long seed) {
        random = new Random(seed);
    }

    private static TreeMap<String, Method> methodsOf(Class<?> which) {
        TreeMap<String, Method> found = new TreeMap<>();
        for (Method m : which.getDeclaredMethods()) {
            if (java.lang.reflect.Modifier.isPublic(m.getModifiers())) {
                found.put(m.getName(), m);
            }
        }
        return found;
    }

    public static void main(String[] args) throws Exception {
        int runs = args.length > 0 ? Integer.parseInt(args[0]) : 1200;
        long first = args.length > 1 ? Long.parseLong(args[1]) : 1;
        for (int i = 0; i < runs; i++) {
            PlainModelTest test = new PlainModelTest(first + i);
            String wrong = test.go(CALLS);
            if (wrong != null) {
                System.out.println("seed " + (first + i) + ": " + wrong);
                for (String line : test.story) {
                    System.out.println("  " + line);
                }
                System.exit(1);
            }
        }
        for (Method m : REAL.values()) {
            int[] seen = SEEN.getOrDefault(m.getName(), new int[2]);
            if (seen[0] < runs / 10 || seen[1] < runs / 10) {
                System.out.println(m.getName() + " was called too seldom: " + seen[0] + ", answered " + seen[1]);
                System.exit(1);
            }
        }
        System.out.println(runs + " runs of " + CALLS + " calls: all answers as the plain model's");
    }

    private static Object answer(Method m, Object on, Object... args) throws Exception {
        try {
            return m.invoke(on, args);
        } catch (InvocationTargetException e) {
            return "throws." + e.getCause().getClass().getName();
        }
    }

    private String call(String name, Object... args) throws Exception {
        Object want = answer(PLAIN.get(name), plain, args);
        Object got = answer(REAL.get(name), real, args);
        StringBuilder line = new StringBuilder(name).append('(');
        for (int i = 0; i < args.length; i++) {
            line.append(i == 0 ? "" : ", ").append(args[i]);
        }
        line.append(") = ").append(got);
        story.add(line.toString());
        int[] seen = SEEN.computeIfAbsent(name, n -> new int[2]);
        seen[0]++;
        boolean refused = want.equals(-1) || want.equals(-2) || want.equals(-1000000) || want.equals(false) || want instanceof String;
        seen[1] += refused ? 0 : 1;
        return got.equals(want) ? null : line + ", due is " + want;
    }

    private int upTo(int n) {
        return random.nextInt(n + 1);
    }

    private int between(int low, int high) {
        return low + random.nextInt(high - low + 1);
    }

    /** Mostly within bounds, sometimes just beyond, seldom far away. */
    private int about(int low, int high) {
        int sort = upTo(29);
        if (sort == 0) {
            return random.nextInt();
        }
        return sort < 3 ? between(low - 2, high + 2) : between(low, high);
    }

    private int places() {
        return plain.count(0);
    }

    private int aPlace() {
        return about(0, Math.max(0, places() - 1));
    }

    private String go(int calls) throws Exception {
        String wrong = upTo(9) == 0 ? null : tell(0);
        // Some runs are of texts alone, some of ACTS that go far into the years.
        int mode = upTo(4);
        while (wrong == null && story.size() < calls - 17) {
            int sort = upTo(99);
            if (mode == 0) {
                wrong = tell(upTo(2));
            } else if (mode == 1 && sort < 95) {
                wrong = act();
            } else if (sort < 4) {
                wrong = tell(upTo(19) == 0 ? 0 : between(1, 2));
            } else if (sort < 5) {
                wrong = tape();
            } else {
                wrong = anyCall();
            }
        }
        for (int what = -1; what <= 15 && wrong == null && story.size() < calls; what++) {
            wrong = call("count", what);
        }
        return wrong;
    }

    private String act() throws Exception {
        switch (upTo(15)) {
            case 0: return call("gout", between(5, 9));
            case 1: case 2: case 3: return call("years", about(20, 60), random.nextLong());
            case 4: case 5: return call("walk", aPlace());
            case 6: return call("day");
            case 7: case 8: return call("undo");
            case 9: return call("perform", upTo(3));
            case 10: return upTo(3) != 0 ? null : call("image");
            case 11: return upTo(9) != 0 ? null : call("back");
            case 12: return call("count", between(5, 14));
            default: return call("log", about(0, 60), upTo(2));
        }
    }

    private String tape() throws Exception {
        if (upTo(1) == 0) {
            return call("end", about(0, plain.count(3)));
        }
        return call("feed", random.nextInt(), upTo(1) == 0 ? random.nextInt() : 0, random.nextInt() & 0x20ff00ff,
                random.nextInt() & 0x00ffffff, 0x20202020);
    }

    private String tell(int sort) throws Exception {
        String wrong = call("end", 0);
        String text = sort == 0 ? cityText() : sort == 1 ? lawText() : daysText();
        if (upTo(2) == 0) {
            text = spoilt(text, sort);
        }
        byte[] bytes = text.substring(0, Math.min(240, text.length())).getBytes(java.nio.charset.StandardCharsets.ISO_8859_1);
        for (int i = 0; i < bytes.length && wrong == null; i += 20) {
            int[] five = new int[5];
            for (int j = 0; j < 20 && i + j < bytes.length; j++) {
                five[j / 4] |= (bytes[i + j] & 255) << (24 - j % 4 * 8);
            }
            wrong = call("feed", five[0], five[1], five[2], five[3], five[4]);
        }
        story.add("  which was: " + text);
        for (int f = 0; f < 3 && wrong == null; f++) {
            wrong = call("fault", f);
        }
        return wrong != null ? wrong : call("text", upTo(19) == 0 ? between(-1, 3) : sort);
    }

    private String spoilt(String text, int sort) {
        String signs = sort == 0 ? "spbhcxykvo;0123456789 !" : sort == 1 ? "y:?;kvohnt0123456789+-*/=<>&|!([)] " : "wrbd;0123456789 ";
        StringBuilder s = new StringBuilder(text);
        for (int n = upTo(2); n >= 0; n--) {
            int i = upTo(s.length());
            switch (upTo(3)) {
                case 0: s.insert(i, signs.charAt(upTo(signs.length() - 1))); break;
                case 1: s.setLength(i); break;
                case 2: if (i < s.length()) s.deleteCharAt(i); break;
                default: if (i < s.length()) s.setCharAt(i, signs.charAt(upTo(signs.length() - 1)));
            }
        }
        return s.toString();
    }

    private String blank() {
        return upTo(14) == 0 ? " " : "";
    }

    private String items(String letters, int[] low, int[] high) {
        StringBuilder s = new StringBuilder();
        String left = letters;
        while (!left.isEmpty()) {
            int i = upTo(left.length() - 1);
            int item = letters.indexOf(left.charAt(i));
            if (upTo(3) != 0 || "xy".indexOf(left.charAt(i)) >= 0) {
                int high2 = upTo(39) == 0 ? high[item] + 1 : high[item];
                int v = between(low[item], high2);
                s.append(blank()).append(left.charAt(i)).append(blank());
                s.append(v < 10 && upTo(9) == 0 ? "0" : "").append(v);
            }
            left = left.replace("" + left.charAt(i), "");
        }
        return s.toString();
    }

    private String cityText() {
        int near = upTo(2) == 0 ? 9 : 3;
        int many = upTo(29) == 0 ? between(0, 9) : between(2, 7);
        int rulesAt = upTo(many);
        StringBuilder s = new StringBuilder(blank());
        for (int i = 0; i <= many; i++) {
            if (i == rulesAt && upTo(4) != 0) {
                s.append(s.length() > 1 ? ";" : "").append(blank()).append("s");
                s.append(items("bhc", new int[] {upTo(2) == 0 ? 1 : 20, upTo(2) == 0 ? 1 : 25, 0}, new int[] {60, 60, upTo(1) == 0 ? 9 : 3}));
            }
            if (i < many) {
                s.append(s.length() > 1 ? ";" : "").append(blank()).append("p");
                s.append(items("xykvo", new int[5], new int[] {near, near, upTo(1) == 0 ? 3 : 1, upTo(1) == 0 ? 9 : 4, upTo(1) == 0 ? 30 : 7}));
            }
        }
        return s.toString();
    }

    private String sum(int deep) {
        StringBuilder s = new StringBuilder(atom(deep));
        for (int n = upTo(deep > 1 ? 1 : 3); n > 0; n--) {
            s.append(blank()).append("+-*/+-*".charAt(upTo(6))).append(blank()).append(atom(deep));
        }
        return s.toString();
    }

    private String atom(int deep) {
        int sort = upTo(9);
        if (sort < 2 && deep < between(3, 7)) {
            return "[" + sum(deep + 1) + "]";
        }
        return sort < 6 ? "" + "kvohnt".charAt(upTo(5)) : "" + (upTo(4) == 0 ? upTo(9999) : upTo(9));
    }

    private String condition(int deep) {
        StringBuilder s = new StringBuilder(unit(deep));
        for (int n = upTo(deep > 1 ? 1 : 2); n > 0; n--) {
            s.append(blank()).append("&|".charAt(upTo(1))).append(blank()).append(unit(deep));
        }
        return s.toString();
    }

    private String unit(int deep) {
        int sort = upTo(9);
        if (sort < 4 && deep < between(3, 7)) {
            return sort < 2 ? "!" + unit(deep + 1) : "(" + condition(deep + 1) + blank() + ")";
        }
        return sum(deep) + "=<>".charAt(upTo(2)) + blank() + sum(deep);
    }

    private String lawText() {
        StringBuilder s = new StringBuilder();
        for (int n = upTo(2); n >= 0; n--) {
            s.append(blank()).append("y").append(blank()).append(":");
            s.append(upTo(2) != 0 ? condition(0) + blank() + "?" : "").append(sum(0)).append(blank());
            s.append(n == 0 ? "" : ";");
        }
        return s.toString();
    }

    private String daysText() {
        StringBuilder s = new StringBuilder();
        for (int n = upTo(9) == 0 ? upTo(17) : upTo(8); n >= 0; n--) {
            char what = "wwwwrbd".charAt(upTo(6));
            s.append(blank()).append(what);
            if (what == 'w' || what == 'b') {
                s.append(blank()).append(upTo(9) == 0 ? upTo(9) : upTo(Math.max(0, places() - 1)));
            }
            s.append(n == 0 ? "" : ";");
        }
        return s.toString();
    }

    private int set() {
        return about(1, (1 << Math.max(1, places())) - 1);
    }

    private int[] row() {
        int n = upTo(9) == 0 ? between(0, 8) : between(1, Math.max(1, places()));
        int row = 0;
        List<Integer> left = new ArrayList<>();
        for (int p = 0; p < Math.max(places(), n); p++) {
            left.add(p);
        }
        java.util.Collections.shuffle(left, random);
        for (int i = 0; i < n && i < 8; i++) {
            row = row * 10 + left.get(i);
        }
        return new int[] {upTo(29) == 0 ? random.nextInt() : upTo(29) == 0 ? upTo(999) : row, n};
    }

    private String anyCall() throws Exception {
        int[] row = row();
        switch (upTo(43)) {
            case 0: return call("rule", about(0, 2));
            case 1: case 2: return call("spot", aPlace(), about(0, 6));
            case 3: return call("law", about(-1, Math.max(0, plain.count(1) - 1)));
            case 4: return call("gout", about(0, 9));
            case 5: return call("steps", upTo(1) == 0 ? -1 : aPlace(), aPlace());
            case 6: case 7: case 8: case 9: case 10: return call("walk", aPlace());
            case 11: return call("ledge");
            case 12: return call("restore", aPlace());
            case 13: return call("patience", aPlace(), about(0, 30));
            case 14: return call("day");
            case 15: return call("years", about(1, 60), random.nextLong());
            case 16: return call("undo");
            case 17: return call("log", about(0, Math.max(0, plain.count(13))), about(0, 2));
            case 18: return call("step", about(0, 3), about(0, 7), about(0, 1));
            case 19: return call("run", about(0, Math.max(0, plain.count(2) - 1)), about(0, 1));
            case 20: return call("perform", about(0, Math.max(0, plain.count(2) - 1)));
            case 21: return call("troubles", aPlace());
            case 22: return upTo(places() > 5 ? 9 : 0) != 0 ? null : call("sees", about(0, 2));
            case 23: return upTo(places() > 5 ? 4 : 0) != 0 ? null : call("least", set(), about(0, 1));
            case 24: return call("manners", set());
            case 25: return upTo(1) != 0 ? null : call("noted", aPlace(), about(0, upTo(1) == 0 ? 60 : 15), random.nextBoolean());
            case 26: return call("ways", about(1, 4), upTo(2) == 0 ? -1 : about(0, 60));
            case 27: return call("ask", about(1, 4), about(0, upTo(1) == 0 ? 60 : 20));
            case 28: return call("always", about(1, 4));
            case 29: return call("round", aPlace());
            case 30: return call("meets", row[0], row[1]);
            case 31: return call("game", aPlace(), aPlace(), about(0, 3), about(0, 3), about(0, 1));
            case 32: return call("rests", aPlace(), aPlace(), about(-1, 4));
            case 33: return call("odds", row[0], row[1], about(0, 100));
            case 34: return call("cost", aPlace());
            case 35: case 36: case 37: return call("all", about(0, 9));
            case 38: return call("kinds", about(0, 3));
            case 39: return call("calm", aPlace());
            case 40: return call("image");
            case 41: return upTo(2) != 0 ? null : call("back");
            case 42: return call("fault", about(0, 2));
            default: return call("count", about(0, 14));
        }
    }
}
