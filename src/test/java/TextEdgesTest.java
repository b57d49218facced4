/** The edges of promises 1 to 10 and 19: texts empty and full, numbers at their bounds, shelves that are full. */
public final class TextEdgesTest {
    private static final int NONE = Check.NONE;

    public static void main(String[] args) {
        anObjectWithoutCity();
        tapeIsFull();
        tapeIsCut();
        oneByte();
        emptyTexts();
        fullTexts();
        boundsOfRules();
        boundsOfPlaces();
        digitsOfNumbers();
        lettersOnce();
        clausesOfCity();
        twoInOnePlace();
        stepsOfDays();
        numbersOfLaws();
        nestingOfLaws();
        conditionsOfLaws();
        truths();
        looksLeaveNothing();
        blanks();
        fourAtMost();
        anotherCity();
        rulesAndSpots();
        lawsThatHold();
        goutAtItsBounds();
        stepsBetween();
        stepsTold();
        Check.close();
    }

    // "No CITY."
    private static void anObjectWithoutCity() {
        FreeAlderman x = new FreeAlderman();
        Check.due("1: places", x.count(0), 0);
        Check.due("1: gout is 2 at first", x.count(11), 2);
        Check.due("1: none of the laws holds at first", x.count(4), NONE);
        Check.due("1: at home", x.count(8), NONE);
        Check.due("1: day 0", x.count(5), 0);
        Check.due("1: an empty tape", x.count(3), 0);
        Check.due("1: no image", x.back(), NONE);
    }

    // "Twenty bytes more come to the TAPE (of each number the highest first; bytes of 0 are left out): how many it has.
    // NONE: more than 240."
    private static void tapeIsFull() {
        FreeAlderman x = new FreeAlderman();
        Check.due("2: highest first", x.feed('p' << 24 | ';' << 16 | 'p' << 8 | 'x', '1' << 24, 0, 0, 0), 5);
        Check.due("2: highest first", x.fault(0), NONE);
        x.end(0);
        Check.due("2: lowest bytes alone", x.feed('p', ';', 'p', 'x', '1'), 5);
        Check.due("2: lowest bytes alone", x.fault(0), NONE);
        for (int at = 0; at < 20; at++) {
            int[] five = new int[5];
            five[at / 4] = 'r' << (24 - at % 4 * 8);
            FreeAlderman one = new FreeAlderman();
            Check.due("2: one byte at " + at, one.feed(five[0], five[1], five[2], five[3], five[4]), 1);
            Check.due("2: and just that", one.fault(2), NONE);
        }
        int blanks = 0x20202020;
        for (int missing = 0; missing <= 20; missing++) {
            FreeAlderman y = new FreeAlderman();
            Check.tape(y, "p;px1" + " ".repeat(215));
            Check.due("2: 220", y.count(3), 220);
            Check.tapeOn(y, " ".repeat(20 - missing));
            Check.due("2: up to 240", y.count(3), 240 - missing);
            Check.due("2: twenty more", y.feed(blanks, blanks, blanks, blanks, blanks), missing == 20 ? 240 : NONE);
            Check.due("2: more than 240 changes nothing", y.count(3), missing == 20 ? 240 : 240 - missing);
            Check.due("2: nor what it has", y.fault(0), NONE);
            Check.due("2: just to 240", Check.tapeOn(y, "r".repeat(missing == 20 ? 0 : missing)), 240);
            Check.due("2: 241", y.feed(0, 0, 0, 0, 1), NONE);
            Check.due("2: 241", y.feed(Integer.MIN_VALUE, 0, 0, 0, 0), NONE);
            Check.due("2: nothing more", y.feed(0, 0, 0, 0, 0), 240);
        }
    }

    // "The TAPE has its first n bytes alone. False: n."
    private static void tapeIsCut() {
        FreeAlderman x = new FreeAlderman();
        Check.due("3: an empty one", x.end(0), true);
        Check.due("3: 1 of none", x.end(1), false);
        Check.tape(x, "p;px1");
        for (int n : new int[] {-1, 6, 240, 241, Integer.MIN_VALUE, Integer.MAX_VALUE}) {
            Check.due("3: end(" + n + ") of five", x.end(n), false);
            Check.due("3: changes nothing", x.count(3), 5);
            Check.due("3: nor what it has", x.fault(0), NONE);
        }
        Check.due("3: all five", x.end(5), true);
        Check.due("3: all five", x.count(3), 5);
        Check.due("3: four", x.end(4), true);
        Check.due("3: four", x.count(3), 4);
        Check.due("3: the fifth is gone", x.end(5), false);
        Check.due("3: the first four", x.fault(0), 4);
        Check.due("3: and on", x.feed('2' << 24, 0, 0, 0, 0), 5);
        Check.due("3: and on", x.text(0), 2);
        Check.due("3: with the new one", Check.spot(x, 1, 0), 2);
        Check.due("3: behind a text it is empty", x.end(1), false);
    }

    // "FAULT: the first byte at which no such TEXT can go on": for each byte alone.
    private static void oneByte() {
        for (int b = 1; b < 256; b++) {
            String text = "" + (char) b;
            Check.fault(text, 0, "sp ".indexOf(b) >= 0 ? 1 : 0);
            Check.fault(text, 1, "y ".indexOf(b) >= 0 ? 1 : 0);
            Check.fault(text, 2, "rd".indexOf(b) >= 0 ? NONE : "wb ".indexOf(b) >= 0 ? 1 : 0);
            Check.fault("p" + text, 0, "xykvo; ".indexOf(b) >= 0 ? 2 : 1);
            Check.fault("s" + text, 0, "bhc; ".indexOf(b) >= 0 ? 2 : 1);
            Check.fault("px1" + text, 0, "ykvo; ".indexOf(b) >= 0 ? 4 : 3);
            Check.fault("p;px1" + text, 0, "; ".indexOf(b) < 0 ? "ykvo".indexOf(b) >= 0 ? 6 : 5 : b == ';' ? 6 : NONE);
            Check.fault("y:1" + text, 1, b == ' ' || isDigit(b) ? NONE : "+-*/=<>;".indexOf(b) >= 0 ? 4 : 3);
            Check.fault("y:k" + text, 1, b == ' ' ? NONE : "+-*/=<>;".indexOf(b) >= 0 ? 4 : 3);
            Check.fault("y:k=1" + text, 1, isDigit(b) || "+-*/&|? ".indexOf(b) >= 0 ? 6 : 5);
            Check.fault("y:" + text, 1, isDigit(b) || "kvohnt".indexOf(b) >= 0 ? NONE : "[(! ".indexOf(b) >= 0 ? 3 : 2);
            Check.fault("y:!" + text, 1, isDigit(b) || "kvohnt[(! ".indexOf(b) >= 0 ? 4 : 3);
            Check.fault("y:1+" + text, 1, isDigit(b) || "kvohnt".indexOf(b) >= 0 ? NONE : "[ ".indexOf(b) >= 0 ? 5 : 4);
            Check.fault("w" + text, 2, isDigit(b) ? NONE : b == ' ' ? 2 : 1);
            Check.fault("b" + text, 2, isDigit(b) ? NONE : b == ' ' ? 2 : 1);
            Check.fault("d" + text, 2, b == ' ' ? NONE : b == ';' ? 2 : 1);
            Check.fault("w1" + text, 2, b == ' ' ? NONE : b == ';' ? 3 : 2);
        }
    }

    private static boolean isDigit(int b) {
        return b >= '0' && b <= '9';
    }

    // "(the length, if it ends too early ..)"
    private static void emptyTexts() {
        for (int sort = 0; sort < 3; sort++) {
            Check.fault("", sort, 0);
            Check.fault(" ", sort, 1);
            Check.fault(" ".repeat(240), sort, 240);
        }
        endsTooEarly("sb1h1c1;px1y1k1v1o1;py2", 0);
        endsTooEarly("y:!(k=1|v>[2+3]*4)&n=0?[t-1];y:5", 1);
        endsTooEarly("w1;r;b2;d", 2);
    }

    // Every beginning of a good text either is one itself or ends too early: then the FAULT is its length.
    private static void endsTooEarly(String good, int sort) {
        FreeAlderman x = new FreeAlderman();
        for (int n = 0; n <= good.length(); n++) {
            Check.tape(x, good.substring(0, n));
            int fault = x.fault(sort);
            Check.due("4: '" + good.substring(0, n) + "'", fault == NONE || fault == n, true);
            Check.due("4: '" + good.substring(0, n) + "' ends too early", fault == n, n < good.length() && !isWhole(good, n, sort));
        }
    }

    private static boolean isWhole(String good, int n, int sort) {
        if (n == 0) {
            return false;
        }
        char last = good.charAt(n - 1);
        if (sort == 0) {
            // Two places stand from the second p on; a letter wants its number, a ; its clause.
            return good.substring(0, n).chars().filter(c -> c == 'p').count() == 2 && (last == 'p' || isDigit(last));
        }
        if (sort == 1) {
            // The first clause has a condition: it is whole with the ] behind its ?, the second with its number.
            return last == ']' && good.substring(0, n).indexOf('?') >= 0 || n == good.length();
        }
        return last == 'r' || last == 'd' || isDigit(last);
    }

    // 240 bytes are taken as a text like any other.
    private static void fullTexts() {
        Check.fault(pad("p;px1"), 0, NONE);
        Check.fault(pad("p;px1").substring(0, 239) + "p", 0, 239);
        Check.fault(pad("p;px1").substring(0, 239) + ";", 0, 240);
        Check.fault(" ".repeat(235) + "p;px1", 0, NONE);
        Check.fault(" ".repeat(235) + "p;px;", 0, 239);
        Check.fault(pad("r"), 2, NONE);
        Check.fault(pad("r").substring(0, 239) + "r", 2, 239);
        Check.fault(" ".repeat(239) + "d", 2, NONE);
        Check.fault(" ".repeat(239) + "w", 2, 240);
        Check.fault("y:" + "1+".repeat(119), 1, 240);
        Check.fault("y:" + "1+".repeat(118) + "11", 1, NONE);
        Check.fault("y:" + "1+".repeat(118) + "1k", 1, 239);
        Check.fault("y:1;".repeat(60), 1, 240);
        Check.fault("y:1;".repeat(59) + " y:1", 1, NONE);
        Check.due("5: a full law of signs", trouble("y:" + "0+".repeat(118) + "07"), 7);
        Check.due("5: a full law of times", trouble("y:" + "1*".repeat(118) + "07"), 7);
        Check.due("5: a full law of clauses, the last", trouble("y:0>1?1;".repeat(29) + "y:9"), 9);
        Check.due("5: a full law of clauses, none", trouble("y:0>1?1;".repeat(29) + " y:0>1?1"), 0);
        Check.due("5: a full law of truths", trouble("y:0=1|".repeat(1) + "0=1|".repeat(57) + "1=1?6"), 6);
        Check.due("5: a full law of units", trouble("y:" + "1=1&".repeat(58) + "1=1?6"), 6);
        Check.due("5: a full law of units, the last is not so", trouble("y:" + "1=1&".repeat(57) + "1=0?6"), 0);
        FreeAlderman x = new FreeAlderman();
        Check.due("5: a full city", Check.tell(x, pad("p;px9"), 0), 2);
        Check.due("5: a full city", Check.spot(x, 1, 0), 9);
        Check.due("5: full days", Check.tell(x, pad("w1"), 2), 0);
        Check.due("5: full days", x.perform(0), 1);
    }

    private static String pad(String text) {
        return text + " ".repeat(240 - text.length());
    }

    /** TROUBLE by a law of the first place: k 2, v 7, o 20, 3 steps from home. */
    private static int trouble(String law) {
        FreeAlderman x = Check.city("px1y2k2v7o20;px9");
        Check.hold(x, law);
        return x.troubles(0);
    }

    // "b how much BREATH he has a day (1 .. 60; 30 without), h HOURS of a day (1 .. 60; 40), c CONSIDERATION (0 .. 9; 2)"
    private static void boundsOfRules() {
        String letters = "bhc";
        int[][] bounds = {{1, 60, 30}, {1, 60, 40}, {0, 9, 2}};
        for (int i = 0; i < 3; i++) {
            String s = "s" + letters.charAt(i);
            for (int v = 0; v < 100; v++) {
                boolean good = v >= bounds[i][0] && v <= bounds[i][1];
                String two = s + v / 10 + v % 10 + ";p;px1";
                Check.fault(two, 0, good ? NONE : 3);
                if (v < 10) {
                    Check.fault(s + v + ";p;px1", 0, good ? NONE : 2);
                }
                if (good) {
                    Check.due("6: " + two, Check.city(two).rule(i), v);
                    Check.due("6: " + two, Check.city(s + v + ";p;px1").rule(i), v);
                    Check.due("6: the next one is as without", Check.city(two).rule((i + 1) % 3), bounds[(i + 1) % 3][2]);
                }
            }
            Check.due("6: without", Check.city("p;px1").rule(i), bounds[i][2]);
            Check.due("6: without, though there is an s", Check.city("s;p;px1").rule(i), bounds[i][2]);
        }
    }

    // "x, y where it is (0 .. 9 each; 0), k KIND (0 .. 3; 0), v what is SEEN there (0 .. 9; 3), o PATIENCE (0 .. 30; 6)"
    private static void boundsOfPlaces() {
        String letters = "xykvo";
        int[] high = {9, 9, 3, 9, 30};
        int[] without = {0, 0, 0, 3, 6};
        for (int i = 0; i < 5; i++) {
            String other = i == 0 ? ";py1" : ";px1";
            String p = "p" + letters.charAt(i);
            for (int v = 0; v < 100; v++) {
                boolean good = v <= high[i];
                String two = p + v / 10 + v % 10 + other;
                Check.fault(two, 0, good ? NONE : 3);
                if (v < 10) {
                    Check.fault(p + v + other, 0, good ? NONE : 2);
                }
                if (good) {
                    Check.due("7: " + two, Check.spot(Check.city(two), 0, i), v);
                    Check.due("7: " + p + v, Check.spot(Check.city(p + v + other), 0, i), v);
                    int next = (i + 1) % 5;
                    Check.due("7: the next one is as without", Check.spot(Check.city(two), 0, next), without[next]);
                }
            }
            Check.due("7: without", Check.spot(Check.city("p;px1y1"), 0, i), without[i]);
        }
    }

    // "a number (one or two digits)"; "a third digit (whatever stands ahead of it ..) itself"
    private static void digitsOfNumbers() {
        for (String item : new String[] {"sb", "sh", "sc", "px", "py", "pk", "pv", "po"}) {
            Check.fault(item, 0, 2);
            Check.fault(item + ";p", 0, 2);
            Check.fault(item + " ;p", 0, 3);
            Check.fault(item + "-1", 0, 2);
            Check.fault(item + "001", 0, 4);
            Check.fault(item + "000", 0, 4);
            Check.fault(item + "010", 0, 4);
            Check.fault(item + "999", 0, 4);
            Check.fault(item + "9999", 0, 4);
            Check.fault(item + "  999", 0, 6);
            Check.fault(item + "0 1", 0, item.equals("sb") || item.equals("sh") ? 2 : 4);
            Check.fault(item + "01 1", 0, 5);
        }
        Check.fault("p;px1;py123;s", 0, 10);
    }

    // "a letter, each once at most in a CLAUSE"; "a letter that was there .. at it"
    private static void lettersOnce() {
        String rules = "bhc";
        for (int i = 0; i < 3; i++) {
            for (int j = 0; j < 3; j++) {
                String two = "s" + rules.charAt(i) + "1" + rules.charAt(j) + "1;p;px1";
                Check.fault(two, 0, i == j ? 3 : NONE);
            }
            Check.fault("sb1h1c1" + rules.charAt(i) + "1;p;px1", 0, 7);
            Check.fault("sc1h1b1  " + rules.charAt(i) + "1;p;px1", 0, 9);
        }
        String spots = "xykvo";
        for (int i = 0; i < 5; i++) {
            for (int j = 0; j < 5; j++) {
                String two = "p" + spots.charAt(i) + "1" + spots.charAt(j) + "1;px9";
                Check.fault(two, 0, i == j ? 3 : NONE);
            }
            Check.fault("px1y1k1v1o1" + spots.charAt(i) + "2;px9", 0, 11);
            Check.fault("po1v1k1y1x1" + spots.charAt(i) + ";px9", 0, 11);
            Check.fault("p" + spots.charAt(i) + "1;px8" + (i == 0 ? "y8" : spots.charAt(i) + "2"), 0, NONE);
        }
    }

    // "CLAUSES with ; between: s (its RULES; one at most), p (a PLACE; 2 .. 7), in any order"
    private static void clausesOfCity() {
        String[] ps = {"p", "px1", "px2", "px3", "px4", "px5", "px6", "px7", "px8"};
        for (int n = 1; n <= 9; n++) {
            StringBuilder all = new StringBuilder();
            for (int i = 0; i < n; i++) {
                all.append(i == 0 ? "" : ";").append(ps[i]);
            }
            String text = all.toString();
            int want = n < 2 ? text.length() : n > 7 ? 26 : NONE;
            Check.fault(text, 0, want);
            Check.fault("s;" + text, 0, want == NONE ? NONE : want + 2);
            Check.fault(text + ";s", 0, n < 2 ? text.length() + 2 : want);
            Check.fault(text + ";s;s", 0, n > 7 ? 26 : text.length() + 3);
            Check.fault("s;" + text + ";s", 0, n > 7 ? 28 : text.length() + 3);
            Check.fault("s;s;" + text, 0, 2);
            Check.fault("sb1;sh1;" + text, 0, 4);
            Check.fault("s;" + text + ";", 0, n > 7 ? 28 : text.length() + 3);
            if (n >= 2 && n <= 7) {
                FreeAlderman x = new FreeAlderman();
                Check.due("5: how many places", Check.tell(x, text, 0), n);
                Check.due("41: how many places", x.count(0), n);
                Check.due("7: the last", Check.spot(x, n - 1, 0), n - 1);
                Check.due("7: no other", Check.spot(x, n, 0), Check.HIDDEN);
                Check.due("5: and with rules in the middle", Check.tell(x, "p;sb7;" + text.substring(2), 0), n);
                Check.due("6: which are read", x.rule(0), 7);
            }
        }
    }

    // "the length, if .. with two in one place"
    private static void twoInOnePlace() {
        Check.fault("p;p", 0, 3);
        Check.fault("p;px0y0", 0, 7);
        Check.fault("px1;p;py1x1;px1", 0, 15);
        Check.fault("px1;p;py1x1;px1 ;s ", 0, 19);
        Check.fault("px9y9;p;px1;px2;px3;px4;px9y9", 0, 29);
        Check.fault("px9y9;p;px1;px2;px3;px4;px9y8", 0, NONE);
        Check.fault("px9y8;p;px1;px2;px3;px4;px8y9", 0, NONE);
        Check.fault("px1y2;px2y1", 0, NONE);
        Check.fault("p;p;p;p;p;p;p;p", 0, 14);
        Check.fault("p;p;pz", 0, 5);
    }

    // "DAYS .. STEPS with ; between, 1 to 16"; "the ; ahead of a 17th STEP"; "a PLACE of a STEP that is not there is no FAULT"
    private static void stepsOfDays() {
        for (int n = 1; n <= 18; n++) {
            String text = "r;".repeat(n - 1) + "r";
            Check.fault(text, 2, n <= 16 ? NONE : 31);
            Check.fault(text + ";", 2, n < 16 ? text.length() + 1 : 31);
            Check.fault(text + " ;w1", 2, n < 16 ? NONE : n == 16 ? 32 : 31);
            if (n <= 16) {
                FreeAlderman x = new FreeAlderman();
                Check.due("5: days of " + n, Check.tell(x, text, 2), 0);
                Check.due("19: the last", x.step(0, n - 1, 0), 1);
                Check.due("19: no other", x.step(0, n, 0), Check.HIDDEN);
            }
        }
        FreeAlderman x = Check.city("p;px1");
        for (int digit = 0; digit < 10; digit++) {
            Check.fault("w" + digit, 2, NONE);
            Check.fault("b" + digit, 2, NONE);
            FreeAlderman y = Check.city("p;px1");
            Check.tell(y, "w" + digit, 2);
            Check.tell(y, "w0;b" + digit, 2);
            Check.due("20: w" + digit + " of two places", y.run(0, 0), digit < 2 ? NONE : 0);
            Check.due("20: b" + digit + " of two places", y.run(1, 0), digit == 0 ? NONE : 1);
            Check.due("21: w" + digit + " of two places", y.perform(0), digit < 2 ? 1 : 0);
        }
        Check.due("5: no days were told", x.count(2), 0);
    }

    // "ATOM: a number (1 to 4 digits)"; "Behind each sign numbers are within -1,000,000 .. 1,000,000; / cuts towards 0, by 0 gives 0."
    private static void numbersOfLaws() {
        Check.fault("y:9999", 1, NONE);
        Check.fault("y:0000", 1, NONE);
        Check.fault("y:10000", 1, 6);
        Check.fault("y:00000", 1, 6);
        Check.fault("y:123456", 1, 6);
        Check.fault("y:1+k*12345", 1, 10);
        Check.fault("y:[12345]", 1, 7);
        Check.fault("y:k=12345?1", 1, 8);
        Check.fault("y:1234 5", 1, 7);
        String[][] sums = {
            {"1000*1000-9999*100-93", "7"}, {"1001*1000-9999*100-93", "7"}, {"999*1001-9999*100-93", "6"},
            {"[0-1000]*1000+9999*100+107", "7"}, {"[0-1001]*1000+9999*100+107", "7"}, {"[0-999]*1001+9999*100+107", "8"},
            {"9999*100+100-9999*100-93", "7"}, {"9999*100+101-9999*100-93", "7"}, {"9999*100+99-9999*100-93", "6"},
            {"0-9999*100-100+9999*100+107", "7"}, {"0-9999*100-101+9999*100+107", "7"}, {"0-9999*100-99+9999*100+107", "8"},
            {"9999*100-[0-100]-9999*100-93", "7"}, {"9999*100-[0-101]-9999*100-93", "7"},
            {"[0-9999*100]+[0-100]+9999*100+107", "7"}, {"[0-9999*100]+[0-101]+9999*100+107", "7"},
            {"9999*9999*[9999*9999]-9999*100-93", "7"}, {"9999*9999*[0-9999*9999]+9999*100+107", "7"},
            {"9999*9999/9999-93", "7"}, {"[0-9999*9999]/9999+107", "7"}, {"[0-9999*9999]/[0-1]-9999*100-93", "7"},
            {"9999*9999*0+7", "7"}, {"7/2", "3"}, {"10+[0-7]/2", "7"}, {"10+7/[0-2]", "7"}, {"[0-7]/[0-2]", "3"},
            {"9+1/2", "9"}, {"9+[0-1]/2", "9"}, {"5+0/0", "5"}, {"5+1/0", "5"}, {"5+[0-1]/0", "5"}, {"5+7/0*3", "5"},
            {"5+7/[1-1]", "5"}, {"5+9999*9999/0", "5"}, {"29+1", "30"}, {"30+1", "30"}, {"9999*9999", "30"}, {"1-1", "0"},
            {"0-1", "0"}, {"0-9999*9999", "0"}, {"29", "29"}, {"0030", "30"}, {"0031", "30"}};
        for (String[] sum : sums) {
            Check.due("22: " + sum[0], trouble("y:" + sum[0]), Integer.parseInt(sum[1]));
        }
        Check.due("22: held ahead of a comparison", trouble("y:9999*9999=1000*1000?7"), 7);
        Check.due("22: held ahead of a comparison", trouble("y:9999*9999>1000*1000?7;y:8"), 8);
        Check.due("22: held ahead of a comparison", trouble("y:0-9999*9999<0-1000*1000?7;y:8"), 8);
    }

    // "At most six of ( [ ! within one another."; "a seventh of ( [ ! in a LAW at it"
    private static void nestingOfLaws() {
        for (int outer = 0; outer <= 7; outer++) {
            for (int mix = 0; mix < 1 << outer; mix++) {
                StringBuilder open = new StringBuilder();
                StringBuilder close = new StringBuilder();
                boolean turned = false;
                for (int i = 0; i < outer; i++) {
                    boolean round = (mix >> i & 1) != 0;
                    open.append(round ? '(' : '!');
                    close.append(round ? ")" : "");
                    turned ^= !round;
                }
                if (outer <= 6) {
                    int inner = 6 - outer;
                    String six = "y:" + open + "[".repeat(inner) + "1" + "]".repeat(inner) + "=1" + close + "?5;y:9";
                    Check.fault(six, 1, NONE);
                    Check.due("22: " + six, trouble(six), turned ? 9 : 5);
                    String right = "y:" + open + "1=" + "[".repeat(inner) + "1" + "]".repeat(inner) + close + "?5;y:9";
                    Check.due("22: " + right, trouble(right), turned ? 9 : 5);
                }
                int inner = Math.max(0, 7 - outer);
                Check.fault("y:" + open + "[".repeat(inner) + "1" + "]".repeat(inner) + "=1" + close + "?1", 1, 8);
                String right = "y:" + open + "1=" + "[".repeat(inner) + "1" + "]".repeat(inner) + close + "?1";
                Check.fault(right, 1, outer == 7 ? 8 : 10);
            }
        }
        Check.due("22: six behind the ?", trouble("y:!!!!!!1=1?[[[[[[4]]]]]]"), 4);
        Check.fault("y:1=1?[[[[[[[4]]]]]]]", 1, 12);
        Check.due("22: side by side is not within", trouble("y:[1]+[1]+[1]+[1]+[1]+[1]+[1]+[1]"), 8);
        Check.due("22: side by side is not within", trouble("y:(1=1)&(1=1)&(1=1)&(1=1)&(1=1)&(1=1)&(1=1)&!1=0?3"), 3);
        Check.due("22: in each clause anew", trouble("y:!!!!!!1=0?1;y:!!!!!!1=0?1;y:[[[[[[6]]]]]]"), 6);
        Check.due("22: behind closed ones", trouble("y:((((((1=1))))))&((((((1=1))))))?[[[[[[2]]]]]]"), 2);
    }

    // "CONDITION ?, then SUM"; "(A CLAUSE that goes on with ! or ( behind its : has a CONDITION.)"; "0 without"
    private static void conditionsOfLaws() {
        Check.fault("y:(1=1)", 1, 7);
        Check.fault("y:!1=1", 1, 6);
        Check.fault("y:(1)", 1, 4);
        Check.fault("y:(1+1)*2", 1, 6);
        Check.fault("y:!1", 1, 4);
        Check.fault("y:1?1", 1, 3);
        Check.fault("y:1&1=1?1", 1, 3);
        Check.fault("y:1=1&1", 1, 7);
        Check.fault("y:1=1|", 1, 6);
        Check.fault("y:1=1?(1=1)", 1, 6);
        Check.fault("y:1=1?!1", 1, 6);
        Check.fault("y:1=1?1=1", 1, 7);
        Check.fault("y:1=1?1;", 1, 8);
        Check.fault("y:[1=1]", 1, 4);
        Check.fault("y:1==1?1", 1, 4);
        Check.fault("y:1<=1?1", 1, 4);
        Check.due("22: the first that holds", trouble("y:1=1?3;y:1=1?4"), 3);
        Check.due("22: less is not as much", trouble("y:2<2?3;y:4"), 4);
        Check.due("22: more is not as much", trouble("y:2>2?3;y:4"), 4);
        Check.due("22: as much", trouble("y:2=2?3;y:4"), 3);
        Check.due("22: one less", trouble("y:1<2?3;y:4"), 3);
        Check.due("22: one more", trouble("y:2>1?3;y:4"), 3);
        Check.due("22: 0 without", trouble("y:1=0?3"), 0);
        Check.due("22: 0 without", trouble("y:1=0?3;y:0=1?4"), 0);
        Check.due("22: letters", trouble("y:k=2&v=7&o=20&h=3&n=0&t=3?1"), 1);
    }

    // "CONDITION: TRUTHS with | between; TRUTH: UNITS with & between; UNIT: ! UNIT, ( CONDITION ), or SUM, one of = < >, SUM."
    private static void truths() {
        String[] units = {"1=1", "1<2", "2>1", "1=2", "2<1", "1<1", "1>2", "1>1"};
        boolean[] so = {true, true, true, false, false, false, false, false};
        for (int a = 0; a < units.length; a++) {
            truth(units[a], so[a]);
            truth("!" + units[a], !so[a]);
            truth("!!" + units[a], so[a]);
            for (int b = 0; b < units.length; b++) {
                truth(units[a] + "&" + units[b], so[a] && so[b]);
                truth(units[a] + "|" + units[b], so[a] || so[b]);
                truth("!" + units[a] + "&" + units[b], !so[a] && so[b]);
                truth("!(" + units[a] + "|" + units[b] + ")", !(so[a] || so[b]));
            }
        }
        for (int bits = 0; bits < 8; bits++) {
            boolean a = (bits & 1) != 0;
            boolean b = (bits & 2) != 0;
            boolean c = (bits & 4) != 0;
            String[] u = {a ? "1<2" : "2<1", b ? "k=2" : "k=1", c ? "v>o-14" : "v>o-13"};
            truth(u[0] + "&" + u[1] + "|" + u[2], a && b || c);
            truth(u[0] + "|" + u[1] + "&" + u[2], a || b && c);
            truth("(" + u[0] + "|" + u[1] + ")&" + u[2], (a || b) && c);
            truth(u[0] + "&(" + u[1] + "|!" + u[2] + ")", a && (b || !c));
            truth("!(" + u[0] + "&" + u[1] + "&" + u[2] + ")", !(a && b && c));
        }
    }

    private static void truth(String condition, boolean so) {
        Check.due("22: " + condition, trouble("y:" + condition + "?7;y:8"), so ? 7 : 8);
    }

    // A tape that is only looked at, good or not, leaves nothing in what is told behind it.
    private static void looksLeaveNothing() {
        FreeAlderman x = Check.city("p;px1");
        for (String looked : new String[] {"y:9", "y:9;y:8", "y:9;", "y:9+9*9+9/", "y:1=1?9"}) {
            Check.tape(x, looked);
            x.fault(1);
        }
        Check.hold(x, "y:3");
        Check.due("22: the law that was told", x.troubles(0), 3);
        Check.tape(x, "y:9");
        x.fault(1);
        Check.due("22: still", x.troubles(0), 3);
        Check.tape(x, "d;d;d;d");
        x.fault(2);
        Check.due("5: days", Check.tell(x, "w1;r", 2), 0);
        Check.due("19: of two steps", x.step(0, 2, 0), Check.HIDDEN);
        Check.tape(x, "d;d;d");
        x.fault(2);
        Check.due("19: still", x.step(0, 0, 0), 0);
        Check.tape(x, "sb1h1c1;px5k1v1o1;py5;px7");
        x.fault(0);
        Check.due("6: the city is as it was", x.rule(0) * 100 + x.rule(1), 3040);
        Check.due("41: the city is as it was", x.count(0), 2);
        Check.due("10: the city is as it was", x.steps(0, 1), 1);
        Check.due("5: another one", Check.tell(x, "p;px2", 0), 2);
        Check.due("6: without what was looked at", x.rule(0) * 100 + x.rule(1), 3040);
        Check.due("7: without what was looked at", Check.spot(x, 0, 2) + Check.spot(x, 0, 3), 3);
    }

    // "Blanks (32) may stand between all signs of these, not within numbers."
    private static void blanks() {
        String city = "sb12h13c4;px1y2k3v4o5;px6";
        String law = "y:!(k=1|v<2)&o>3?[h+10]*n/t-2;y:77";
        String days = "w1;r;b2;d";
        String[] texts = {city, law, days};
        for (int sort = 0; sort < 3; sort++) {
            String spread = spread(texts[sort]);
            Check.fault(texts[sort], sort, NONE);
            Check.fault(spread, sort, NONE);
            Check.fault(spread.replace(" ", "   "), sort, NONE);
            for (char other : new char[] {9, 10, 13, 31, 33, '_', 160, 255}) {
                Check.fault(other + texts[sort], sort, 0);
                Check.fault(" " + other + texts[sort], sort, 1);
                Check.fault(texts[sort] + other, sort, texts[sort].length());
                Check.fault(texts[sort] + "  " + other, sort, texts[sort].length() + 2);
            }
        }
        FreeAlderman x = Check.city(spread(city));
        int[] want = {1, 2, 3, 4, 5};
        for (int what = 0; what < 5; what++) {
            Check.due("7: with blanks", Check.spot(x, 0, what), want[what]);
        }
        Check.due("6: with blanks", x.rule(0) * 10000 + x.rule(1) * 100 + x.rule(2), 121304);
        Check.fault("sb1 2;p;px1", 0, 4);
        Check.fault("p;po1 2", 0, 6);
        Check.fault("y:1 2", 1, 4);
        Check.fault("y:123  4", 1, 7);
        Check.fault("w1 2", 2, 3);
    }

    /** The text with a blank at its ends and between all signs, numbers left whole. */
    private static String spread(String text) {
        StringBuilder s = new StringBuilder(" ");
        for (int i = 0; i < text.length(); i++) {
            s.append(text.charAt(i));
            boolean within = isDigit(text.charAt(i)) && i + 1 < text.length() && isDigit(text.charAt(i + 1));
            s.append(within ? "" : " ");
        }
        return s.toString();
    }

    // "LAWS (4 at most)", "DAYS (4 at most)"; "NONE: a FAULT, no such sort, there are four."
    private static void fourAtMost() {
        FreeAlderman x = Check.city("p;px1");
        for (int i = 0; i < 4; i++) {
            Check.due("5: law " + i, Check.tell(x, "y:" + (5 + i), 1), i);
            Check.due("41: laws", x.count(1), i + 1);
            Check.due("5: the tape is empty", x.count(3), 0);
        }
        Check.due("5: a fifth law", Check.tell(x, "y:9", 1), NONE);
        Check.due("5: a fifth law leaves the tape", x.count(3), 3);
        Check.due("4: as it was", x.fault(1), NONE);
        Check.due("41: still four", x.count(1), 4);
        Check.due("8: no fifth", x.law(4), false);
        for (int i = 0; i < 4; i++) {
            x.law(i);
            Check.due("22: law " + i + " as it was", x.troubles(0), 5 + i);
        }
        for (int i = 0; i < 4; i++) {
            Check.due("5: days " + i, Check.tell(x, "w" + (5 + i) + ";r", 2), i);
            Check.due("41: days", x.count(2), i + 1);
        }
        Check.due("5: fifth days", Check.tell(x, "d;d;d", 2), NONE);
        Check.due("5: fifth days leave the tape", x.count(3), 5);
        Check.due("4: as it was", x.fault(2), NONE);
        Check.due("41: still four", x.count(2), 4);
        Check.due("19: no fifth", x.step(4, 0, 0), Check.HIDDEN);
        Check.due("20: no fifth", x.run(4, 0), Check.HIDDEN);
        Check.due("21: no fifth", x.perform(4), NONE);
        for (int i = 0; i < 4; i++) {
            Check.due("19: days " + i + " as they were", x.step(i, 0, 1), 5 + i);
            Check.due("19: days " + i + " as they were", x.step(i, 1, 0), 1);
            Check.due("19: days " + i + " as they were", x.step(i, 2, 0), Check.HIDDEN);
        }
        Check.due("5: a city at any time", Check.tell(x, "p;px1;px2", 0), 3);
        for (int sort : new int[] {-2, -1, 3, 4, Integer.MIN_VALUE, Integer.MAX_VALUE}) {
            Check.tape(x, "p;px1");
            Check.due("4: no such sort", x.fault(sort), -2);
            Check.due("5: no such sort", x.text(sort), NONE);
            Check.due("5: the tape stays", x.count(3), 5);
            Check.due("5: the city stays", x.count(0), 3);
        }
        Check.tape(x, "p;px1;px1");
        Check.due("5: a fault", x.text(0), NONE);
        Check.due("5: the tape stays", x.count(3), 9);
        Check.due("5: the city stays", x.count(0), 3);
        Check.due("5: and its places", Check.spot(x, 2, 0), 2);
    }

    // "all that was of another one, PUT, too, is gone but LAWS, which holds, DAYS told, GOUT"
    private static void anotherCity() {
        FreeAlderman x = Check.city("sc0;p;px1;px2;px3;px4;px5;px6");
        Check.hold(x, "y:v+4");
        Check.tell(x, "w6;r", 2);
        x.gout(9);
        x.noted(0, 0, true);
        x.walk(6);
        x.patience(0, 30);
        x.day();
        x.walk(5);
        x.image();
        Check.due("5: the same text again is another city", Check.tell(x, "sc0;p;px1", 0), 2);
        int[] want = {2, 1, 1, 0, 0, 0, 0, 0, -1, 0, 0, 9, 0, 0, 0};
        for (int what = 0; what < want.length; what++) {
            Check.due("5: count(" + what + ")", x.count(what), want[what]);
        }
        Check.due("17: no act of the other", x.undo(), NONE);
        Check.due("18: no log of the other", x.log(0, 0), NONE);
        Check.due("40: no image of this city", x.back(), NONE);
        Check.due("36: no secrets of the other", x.all(0), 0);
        Check.due("7: its own patience", Check.spot(x, 0, 4), 6);
        Check.due("7: no troubles of the other", Check.spot(x, 0, 5), 0);
        Check.due("7: no visits of the other", Check.spot(x, 0, 6), 0);
        Check.due("27: nothing put", x.ways(2, NONE), 2);
        Check.due("22: the law holds", x.troubles(0), 7);
        Check.due("20: days told stay, w6 can't be", x.run(0, 0), 0);
        Check.due("7: a place of the other is gone", Check.spot(x, 2, 0), Check.HIDDEN);
        Check.due("11: a place of the other is gone", x.walk(2), NONE);
        Check.tell(x, "sc0;p;px1;px2;px3;px4;px5;px6", 0);
        for (int place = 0; place < 7; place++) {
            Check.due("7: nothing of the first comes again", Check.spot(x, place, 5) + Check.spot(x, place, 6), 0);
            Check.due("7: nothing of the first comes again", Check.spot(x, place, 4), 6);
        }
    }

    // "0 BREATH, 1 HOURS of a day, 2 CONSIDERATION. NONE: no CITY, no such what."; "NoSuchElementException: no such ones."
    private static void rulesAndSpots() {
        FreeAlderman x = Check.city("sb11h12c3;p;px1;px2;px3;px4;px5;px6");
        FreeAlderman none = new FreeAlderman();
        Check.due("6: 0", x.rule(0), 11);
        Check.due("6: 2", x.rule(2), 3);
        for (int what : new int[] {-1, 3, Integer.MIN_VALUE, Integer.MAX_VALUE}) {
            Check.due("6: rule(" + what + ")", x.rule(what), NONE);
        }
        for (int what = -1; what < 4; what++) {
            Check.due("6: no city", none.rule(what), NONE);
        }
        for (int place : new int[] {-1, 7, 8, Integer.MIN_VALUE, Integer.MAX_VALUE}) {
            for (int what = 0; what < 7; what++) {
                Check.due("7: spot(" + place + ", " + what + ")", Check.spot(x, place, what), Check.HIDDEN);
            }
        }
        for (int what : new int[] {-1, 7, Integer.MIN_VALUE, Integer.MAX_VALUE}) {
            for (int place = 0; place < 7; place++) {
                Check.due("7: spot(" + place + ", " + what + ")", Check.spot(x, place, what), Check.HIDDEN);
            }
        }
        Check.due("7: the last place, the last what", Check.spot(x, 6, 6), 0);
        for (int place = 0; place < 7; place++) {
            Check.due("7: no city", Check.spot(none, place, 0), Check.HIDDEN);
        }
    }

    // "The LAW that holds (NONE: none). False: no such one."
    private static void lawsThatHold() {
        FreeAlderman x = Check.city("p;px1");
        for (int n = 0; n <= 4; n++) {
            for (int law : new int[] {-2, n, n + 1, Integer.MIN_VALUE, Integer.MAX_VALUE}) {
                int held = x.count(4);
                Check.due("8: law(" + law + ") of " + n, x.law(law), false);
                Check.due("8: changes nothing", x.count(4), held);
            }
            if (n > 0) {
                Check.due("8: the last of " + n, x.law(n - 1), true);
                Check.due("8: it holds", x.count(4), n - 1);
                Check.due("8: by it", x.troubles(1), 10 + n);
                Check.due("8: the first of " + n, x.law(0), true);
                Check.due("8: by it", x.troubles(1), 11);
                Check.due("8: it is so", x.law(0), true);
            }
            if (n < 4) {
                Check.tell(x, "y:" + (11 + n), 1);
                Check.due("8: a new one does not hold of itself", x.count(4), n == 0 ? NONE : 0);
            }
        }
        Check.due("8: none", x.law(NONE), true);
        Check.due("8: none", x.count(4), NONE);
        Check.due("8: none", x.troubles(1), 2);
        Check.due("8: none again", x.law(NONE), true);
    }

    // "GOUT (0 .. 9). False: out of bounds, it is so."
    private static void goutAtItsBounds() {
        FreeAlderman x = new FreeAlderman();
        Check.due("9: 2 at first", x.gout(2), false);
        for (int v = -2; v <= 11; v++) {
            boolean good = v >= 0 && v <= 9 && v != x.count(11);
            int was = x.count(11);
            Check.due("9: " + v, x.gout(v), good);
            Check.due("9: " + v, x.count(11), good ? v : was);
            Check.due("9: it is so, or out of bounds", x.gout(v), false);
        }
        Check.due("9: smallest", x.gout(Integer.MIN_VALUE), false);
        Check.due("9: largest", x.gout(Integer.MAX_VALUE), false);
        Check.due("9: as it was", x.count(11), 9);
    }

    // "STEPS between two PLACES (the first NONE: from where he is). NONE: no such ones."
    private static void stepsBetween() {
        FreeAlderman x = Check.city("p;px9y9;px9;py9");
        Check.due("10: the farthest", x.steps(0, 1), 18);
        Check.due("10: the farthest", x.steps(1, 0), 18);
        Check.due("10: to itself", x.steps(1, 1), 0);
        Check.due("10: x one way, y the other", x.steps(2, 3), 18);
        Check.due("10: x one way, y the other", x.steps(3, 2), 18);
        Check.due("10: from home", x.steps(NONE, 3), 9);
        for (int bad : new int[] {-2, 4, 5, 7, Integer.MIN_VALUE, Integer.MAX_VALUE}) {
            Check.due("10: steps(" + bad + ", 0)", x.steps(bad, 0), NONE);
            Check.due("10: steps(0, " + bad + ")", x.steps(0, bad), NONE);
            Check.due("10: steps(NONE, " + bad + ")", x.steps(NONE, bad), NONE);
        }
        Check.due("10: the second is never home", x.steps(0, NONE), NONE);
        Check.due("10: the second is never home", x.steps(NONE, NONE), NONE);
        x.walk(2);
        Check.due("10: from where he is", x.steps(NONE, 3), 18);
        Check.due("10: from where he is", x.steps(NONE, 2), 0);
        x.day();
        Check.due("10: from home again", x.steps(NONE, 2), 9);
        Check.due("10: no city", new FreeAlderman().steps(NONE, 0), NONE);
        Check.due("10: no city", new FreeAlderman().steps(0, 0), NONE);
    }

    // "0 what (0 w, 1 r, 2 b, 3 d), 1 its digit (NONE). HIDDEN: no such ones."
    private static void stepsTold() {
        FreeAlderman x = new FreeAlderman();
        Check.due("19: no days", x.step(0, 0, 0), Check.HIDDEN);
        Check.tell(x, "w0;w9;r;b0;b9;d;r;r;r;r;r;r;r;r;r;w7", 2);
        int[][] want = {{0, 0}, {0, 9}, {1, NONE}, {2, 0}, {2, 9}, {3, NONE}};
        for (int i = 0; i < want.length; i++) {
            Check.due("19: what", x.step(0, i, 0), want[i][0]);
            Check.due("19: digit", x.step(0, i, 1), want[i][1]);
        }
        Check.due("19: the sixteenth", x.step(0, 15, 1), 7);
        for (int bad : new int[] {-1, 16, 17, Integer.MIN_VALUE, Integer.MAX_VALUE}) {
            Check.due("19: step(0, " + bad + ")", x.step(0, bad, 0), Check.HIDDEN);
        }
        for (int bad : new int[] {-1, 2, Integer.MIN_VALUE, Integer.MAX_VALUE}) {
            Check.due("19: what " + bad, x.step(0, 0, bad), Check.HIDDEN);
        }
        for (int bad : new int[] {-1, 1, 4, Integer.MIN_VALUE, Integer.MAX_VALUE}) {
            Check.due("19: days " + bad, x.step(bad, 0, 0), Check.HIDDEN);
        }
    }
}
