import java.nio.charset.StandardCharsets;

/** Counts answers that are not as due, and feeds texts as the class wants them. */
final class Check {
    static final int NONE = -1;
    static final int HIDDEN = -1000000;
    static final int CITY = 0;
    static final int LAW = 1;
    static final int DAYS = 2;

    private static int right;
    private static int wrong;

    private Check() { }

    static void due(String what, long got, long want) {
        if (got == want) {
            right++;
        } else {
            wrong++;
            System.out.println(what + " answered " + got + ", due is " + want);
        }
    }

    static void due(String what, boolean got, boolean want) {
        due(what, got ? 1 : 0, want ? 1 : 0);
    }

    /** spot(place, what), or what a NoSuchElementException counts as: HIDDEN. */
    static int spot(FreeAlderman x, int place, int what) {
        try {
            return x.spot(place, what);
        } catch (java.util.NoSuchElementException e) {
            return HIDDEN;
        }
    }

    static void tape(FreeAlderman x, String text) {
        x.end(0);
        tapeOn(x, text);
    }

    /** Feeds a text behind what the tape has: what the last feed answers. */
    static int tapeOn(FreeAlderman x, String text) {
        int answer = x.count(3);
        byte[] bytes = text.getBytes(StandardCharsets.ISO_8859_1);
        for (int i = 0; i < bytes.length; i += 20) {
            int[] five = new int[5];
            for (int j = 0; j < 20 && i + j < bytes.length; j++) {
                five[j / 4] |= (bytes[i + j] & 255) << (24 - j % 4 * 8);
            }
            answer = x.feed(five[0], five[1], five[2], five[3], five[4]);
        }
        return answer;
    }

    static int tell(FreeAlderman x, String text, int sort) {
        tape(x, text);
        return x.text(sort);
    }

    static FreeAlderman city(String text) {
        FreeAlderman x = new FreeAlderman();
        if (tell(x, text, CITY) < 2) {
            due("the city " + text, 0, 1);
        }
        return x;
    }

    /** Makes a LAW the one that holds. */
    static void hold(FreeAlderman x, String law) {
        due("law " + law, x.law(tell(x, law, LAW)), true);
    }

    static void fault(String text, int sort, int want) {
        FreeAlderman x = new FreeAlderman();
        tape(x, text);
        due("fault of '" + text + "' as " + sort, x.fault(sort), want);
        due("text of '" + text + "' as " + sort + " is refused", x.text(sort) == NONE, want != NONE);
        due("the tape behind text of '" + text + "'", x.count(3), want == NONE ? 0 : text.length());
    }

    /** All that can be asked without changing anything, as one text. */
    static String portrait(FreeAlderman x) {
        StringBuilder s = new StringBuilder();
        for (int what = 0; what < 15; what++) {
            s.append(x.count(what)).append(' ');
        }
        for (int what = 0; what < 3; what++) {
            s.append(x.rule(what)).append(' ');
        }
        for (int what = 0; what < 10; what++) {
            s.append(x.all(what)).append(' ');
        }
        for (int place = 0; place < x.count(0); place++) {
            for (int what = 0; what < 7; what++) {
                s.append(x.spot(place, what)).append(' ');
            }
        }
        for (int i = 0; i < x.count(13); i++) {
            s.append(x.log(i, 0)).append('/').append(x.log(i, 1)).append('/').append(x.log(i, 2)).append(' ');
        }
        return s.toString();
    }

    static void same(String what, String got, String want) {
        if (!got.equals(want)) {
            System.out.println(got);
            System.out.println(want);
        }
        due(what, got.equals(want), true);
    }

    static void close() {
        System.out.println(right + " answers as due, " + wrong + " not");
        if (wrong != 0 || right == 0) {
            System.exit(1);
        }
    }
}
