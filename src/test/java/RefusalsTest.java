import java.util.NoSuchElementException;

/**
 * "What is refused answers as told and changes nothing.": every call that is refused, on objects that stand in many ways.
 * Each is made on one of two objects that were made alike; then both are asked for all that they tell, and both have to tell
 * the same.
 */
public final class RefusalsTest {
    private static final int NONE = Check.NONE;
    private static final int HIDDEN = Check.HIDDEN;
    private static final int MIN = Integer.MIN_VALUE;
    private static final int MAX = Integer.MAX_VALUE;
    private static final int THROWN = -77;

    private interface Call {
        long on(FreeAlderman x);
    }

    private interface Maker {
        FreeAlderman make();
    }

    private final String name;
    private final Maker maker;
    private final String untouched;
    private final int places;
    private final int laws;
    private final int days;
    private final int tape;

    private RefusalsTest(String name, Maker maker) {
        this.name = name;
        this.maker = maker;
        untouched = tellAll(maker.make());
        FreeAlderman x = maker.make();
        places = x.count(0);
        laws = x.count(1);
        days = x.count(2);
        tape = x.count(3);
    }

    public static void main(String[] args) {
        all("new", FreeAlderman::new);
        all("told without a city", RefusalsTest::toldWithoutCity);
        all("morning", RefusalsTest::morning);
        all("midday", RefusalsTest::midday);
        all("evening", RefusalsTest::evening);
        all("full", RefusalsTest::full);
        Check.close();
    }

    private static void all(String name, Maker maker) {
        RefusalsTest test = new RefusalsTest(name, maker);
        test.texts();
        test.acts();
        test.asks();
        test.rowsAndGames();
        if (test.places == 0) {
            test.noCity();
        }
    }

    // ---- how objects may stand ----

    private static FreeAlderman toldWithoutCity() {
        FreeAlderman x = new FreeAlderman();
        Check.hold(x, "y:3+n");
        Check.tell(x, "w0;r;d", 2);
        Check.tape(x, "p;px1;");
        return x;
    }

    private static FreeAlderman morning() {
        return Check.city("sb20;px1;px4o9;py5k2");
    }

    private static FreeAlderman midday() {
        FreeAlderman x = morning();
        Check.tell(x, "y:v+t", 1);
        Check.tell(x, "w1;d;w2", 2);
        x.perform(0);
        x.patience(0, 11);
        x.noted(2, 6, true);
        x.image();
        x.walk(0);
        Check.tape(x, "p;px2;px2");
        return x;
    }

    // All hours are gone, and all his breath.
    private static FreeAlderman evening() {
        FreeAlderman x = Check.city("sb9h10c0;p;px9o0");
        Check.hold(x, "y:7");
        x.image();
        x.walk(1);
        return x;
    }

    // Nothing more can be told, put or lived.
    private static FreeAlderman full() {
        FreeAlderman x = Check.city("sb12h30c1;p;px1;px2o0;px3k1;py4;px5y5;px6");
        for (int i = 0; i < 4; i++) {
            Check.tell(x, "y:" + i + "+n", 1);
            Check.tell(x, "w" + (3 + i) + ";d;d;d;d;d;d;d;d;d;d;d;d;d;d;d", 2);
        }
        x.law(2);
        for (int i = 0; i < 10; i++) {
            x.noted(i % 7, 20 + i, i % 3 != 0);
        }
        for (int i = 0; i < 66; i++) {
            x.perform(i % 4);
        }
        for (int i = 0; x.count(5) < 999 && i < 20; i++) {
            x.day();
        }
        x.image();
        x.walk(5);
        Check.tape(x, "p;px1" + " ".repeat(235));
        Check.due("full: day 999", x.count(5), 999);
        return x;
    }

    // ---- what they tell ----

    /** All that an object tells, at last by undoing and going back: it can't be used any more then. */
    private static String tellAll(FreeAlderman x) {
        StringBuilder s = new StringBuilder();
        for (int what = 0; what < 15; what++) {
            s.append(x.count(what)).append(' ');
        }
        s.append(x.rule(0)).append(' ').append(x.rule(1)).append(' ').append(x.rule(2)).append(' ');
        int places = x.count(0);
        for (int place = 0; place < places; place++) {
            s.append(" :").append(x.spot(place, 0)).append(' ').append(x.spot(place, 4)).append(' ').append(x.troubles(place));
        }
        tellTexts(x, s);
        tellLog(x, s);
        tellBriefly(x, s);
        for (int i = 0; i < 41; i++) {
            s.append(x.undo()).append(' ');
        }
        tellBriefly(x, s);
        s.append("back ").append(x.back()).append(' ');
        tellBriefly(x, s);
        return s.toString();
    }

    private static void tellTexts(FreeAlderman x, StringBuilder s) {
        for (int sort = 0; sort < 3; sort++) {
            s.append(x.fault(sort)).append(' ');
        }
        int days = x.count(2);
        for (int told = 0; told < days; told++) {
            s.append(x.step(told, 0, 1)).append(x.step(told, 1, 0)).append(x.step(told, 15, 0)).append(' ');
        }
        int law = x.count(4);
        int laws = x.count(1);
        for (int i = 0; i < laws; i++) {
            x.law(i);
            s.append(x.troubles(0)).append(' ');
        }
        x.law(law);
        for (int k = 1; k <= 4; k++) {
            s.append(x.ways(k, NONE)).append('/').append(x.always(k)).append(' ');
        }
        s.append(x.sees(0)).append(' ');
    }

    // Of most rows one number: an object is used for 512 calls at most.
    private static void tellLog(FreeAlderman x, StringBuilder s) {
        int length = x.count(13);
        for (int i = 0; i < length; i++) {
            s.append(x.log(i, i % 3)).append(' ');
            if (i < 2 || i > 57) {
                s.append(x.log(i, 0)).append(' ').append(x.log(i, 1)).append(' ').append(x.log(i, 2)).append(' ');
            }
        }
    }

    private static void tellBriefly(FreeAlderman x, StringBuilder s) {
        for (int what = 5; what <= 10; what++) {
            s.append(x.count(what)).append(' ');
        }
        int places = x.count(0);
        for (int place = 0; place < places; place++) {
            s.append(x.spot(place, 5)).append('/').append(x.spot(place, 6)).append(' ');
        }
        s.append(x.all(0)).append(' ').append(x.count(13)).append(" . ");
    }

    private void refused(String call, long want, Call made) {
        FreeAlderman x = maker.make();
        String which = name + ": " + call;
        Check.due(which, made.on(x), want);
        Check.same(which + " changes nothing", tellAll(x), untouched);
    }

    private static int spot(FreeAlderman x, int place, int what) {
        try {
            return x.spot(place, what);
        } catch (NoSuchElementException e) {
            return THROWN;
        }
    }

    /** What lies outside low .. high, near and far. */
    private static int[] outside(int low, int high) {
        return new int[] {low - 1, high + 1, MIN, MAX, low - 2, high + 2, MIN + 1, MAX - 1};
    }

    // ---- the calls that are refused ----

    private void texts() {
        for (int n : outside(0, tape)) {
            refused("end(" + n + ")", 0, x -> x.end(n) ? 1 : 0);
        }
        for (int sort : outside(0, 2)) {
            refused("fault(" + sort + ")", -2, x -> x.fault(sort));
            refused("text(" + sort + ")", NONE, x -> x.text(sort));
        }
        // A text that has a fault, of each sort that the tape is not, and a full shelf.
        FreeAlderman probe = maker.make();
        for (int sort = 0; sort < 3; sort++) {
            int s = sort;
            if (probe.fault(sort) != NONE) {
                refused("text(" + sort + ") with a fault", NONE, x -> x.text(s));
            }
        }
        if (laws == 4 && days == 4) {
            refused("a fifth law", NONE, x -> tellAndRetell(x, "y:9", 1));
            refused("fifth days", NONE, x -> tellAndRetell(x, "r;r", 2));
            refused("feed to 241", NONE, x -> x.feed(0, 0, 'p', 0, 0));
            refused("feed to 260", NONE, x -> x.feed(-1, -1, -1, -1, -1));
        }
        for (int what : outside(0, 2)) {
            refused("rule(" + what + ")", NONE, x -> x.rule(what));
        }
        for (int place : outside(0, places - 1)) {
            refused("spot(" + place + ", 0)", THROWN, x -> spot(x, place, 0));
        }
        for (int what : outside(0, 6)) {
            refused("spot(0, " + what + ")", THROWN, x -> spot(x, 0, what));
        }
        for (int law : new int[] {-2, laws, MIN, MAX}) {
            refused("law(" + law + ")", 0, x -> x.law(law) ? 1 : 0);
        }
        for (int v : outside(0, 9)) {
            refused("gout(" + v + ")", 0, x -> x.gout(v) ? 1 : 0);
        }
        refused("gout as it is", 0, x -> x.gout(2) ? 1 : 0);
        for (int place : new int[] {-2, places, MIN, MAX}) {
            refused("steps(" + place + ", 0)", NONE, x -> x.steps(place, 0));
            refused("steps(0, " + place + ")", NONE, x -> x.steps(0, place));
        }
        refused("steps(0, NONE)", NONE, x -> x.steps(0, NONE));
    }

    /** Tells a text that is refused, and puts the tape back as it was. */
    private static long tellAndRetell(FreeAlderman x, String text, int sort) {
        long answer = Check.tell(x, text, sort);
        Check.due("the tape stays", x.count(3), text.length());
        Check.due("the tape stays as it was", x.fault(sort), NONE);
        Check.tape(x, "p;px1" + " ".repeat(235));
        return answer;
    }

    private void acts() {
        for (int place : outside(0, places - 1)) {
            refused("walk(" + place + ")", NONE, x -> x.walk(place));
            refused("restore(" + place + ")", NONE, x -> x.restore(place));
            refused("patience(" + place + ", 3)", NONE, x -> x.patience(place, 3));
        }
        for (int v : outside(0, 30)) {
            refused("patience(0, " + v + ")", NONE, x -> x.patience(0, v));
        }
        FreeAlderman probe = maker.make();
        for (int place = 0; place < places; place++) {
            int p = place;
            if ((probe.all(7) >> place & 1) == 0) {
                refused("walk(" + place + ") that can't be", NONE, x -> x.walk(p));
            }
            if ((probe.all(0) >> place & 1) == 0) {
                refused("restore(" + place + ") of what he does not know", NONE, x -> x.restore(p));
            }
            refused("patience(" + place + ") as it is", NONE, x -> x.patience(p, x.spot(p, 4)));
        }
        if (probe.count(7) == 0 || probe.count(6) == probe.rule(1)) {
            refused("ledge()", NONE, FreeAlderman::ledge);
        }
        if (places == 0 || probe.count(5) == 999) {
            refused("day()", NONE, FreeAlderman::day);
        }
        if (probe.count(14) == 0) {
            refused("undo()", NONE, FreeAlderman::undo);
        }
        if (name.equals("morning")) {
            refused("back()", NONE, FreeAlderman::back);
        }
        for (int n : outside(1, 60)) {
            refused("years(" + n + ")", NONE, x -> x.years(n, 5));
        }
        int log = probe.count(13);
        for (int i : outside(0, log - 1)) {
            refused("log(" + i + ", 0)", NONE, x -> x.log(i, 0));
        }
        for (int what : outside(0, 2)) {
            refused("log(0, " + what + ")", NONE, x -> x.log(0, what));
        }
        for (int told : outside(0, days - 1)) {
            refused("step(" + told + ", 0, 0)", HIDDEN, x -> x.step(told, 0, 0));
            refused("run(" + told + ", 0)", HIDDEN, x -> x.run(told, 0));
            refused("perform(" + told + ")", NONE, x -> x.perform(told));
        }
        for (int what : outside(0, 1)) {
            refused("step(0, 0, " + what + ")", HIDDEN, x -> x.step(0, 0, what));
            refused("run(0, " + what + ")", HIDDEN, x -> x.run(0, what));
        }
        for (int i : outside(0, 15)) {
            refused("step(0, " + i + ", 0)", HIDDEN, x -> x.step(0, i, 0));
        }
    }

    private void asks() {
        for (int place : outside(0, places - 1)) {
            refused("troubles(" + place + ")", NONE, x -> x.troubles(place));
            refused("noted(" + place + ")", NONE, x -> x.noted(place, 1, true));
            refused("round(" + place + ")", NONE, x -> x.round(place));
            refused("cost(" + place + ")", NONE, x -> x.cost(place));
            refused("calm(" + place + ")", NONE, x -> x.calm(place));
        }
        for (int what : outside(0, 2)) {
            refused("sees(" + what + ")", NONE, x -> x.sees(what));
        }
        for (int what : outside(0, 1)) {
            refused("least(1, " + what + ")", NONE, x -> x.least(1, what));
        }
        for (int set : new int[] {0, -1, 1 << places, (1 << places) + 1, MIN, MAX}) {
            refused("least(" + set + ", 0)", NONE, x -> x.least(set, 0));
            refused("manners(" + set + ")", NONE, x -> x.manners(set));
        }
        for (int t : outside(0, 60)) {
            refused("noted(0, " + t + ")", NONE, x -> x.noted(0, t, false));
            refused("ask(1, " + t + ")", NONE, x -> x.ask(1, t));
        }
        if (maker.make().count(12) == 10) {
            refused("an eleventh", NONE, x -> x.noted(0, 1, true));
        }
        for (int k : outside(1, 4)) {
            refused("ways(" + k + ", NONE)", NONE, x -> x.ways(k, NONE));
            refused("ask(" + k + ", 1)", NONE, x -> x.ask(k, 1));
            refused("always(" + k + ")", NONE, x -> x.always(k));
        }
        for (int i : new int[] {-2, 840, MIN, MAX}) {
            refused("ways(4, " + i + ")", NONE, x -> x.ways(4, i));
        }
        for (int what : outside(0, 9)) {
            refused("all(" + what + ")", NONE, x -> x.all(what));
        }
        for (int kind : outside(0, 3)) {
            refused("kinds(" + kind + ")", NONE, x -> x.kinds(kind));
        }
        for (int what : outside(0, 14)) {
            refused("count(" + what + ")", HIDDEN, x -> x.count(what));
        }
    }

    private void rowsAndGames() {
        for (int n : outside(1, 7)) {
            refused("meets(0, " + n + ")", NONE, x -> x.meets(0, n));
            refused("odds(0, " + n + ")", NONE, x -> x.odds(0, n, 50));
        }
        int[][] rows = {{-1, 1}, {MIN, 1}, {MAX, 7}, {0, 2}, {11, 2}, {10, 1}, {places, 1}, {9, 1}, {101, 3}, {1111111, 7}};
        for (int[] row : rows) {
            refused("meets(" + row[0] + ", " + row[1] + ")", NONE, x -> x.meets(row[0], row[1]));
            refused("odds(" + row[0] + ", " + row[1] + ")", NONE, x -> x.odds(row[0], row[1], 50));
        }
        for (int chance : outside(0, 100)) {
            refused("odds(0, 1, " + chance + ")", NONE, x -> x.odds(0, 1, chance));
        }
        for (int place : outside(0, places - 1)) {
            refused("game(" + place + ", 0)", HIDDEN, x -> x.game(place, 0, 1, 1, 0));
            refused("game(0, " + place + ")", HIDDEN, x -> x.game(0, place, 1, 1, 0));
            refused("rests(" + place + ", 0)", NONE, x -> x.rests(place, 0, NONE));
            refused("rests(0, " + place + ")", NONE, x -> x.rests(0, place, NONE));
        }
        refused("game(1, 1)", HIDDEN, x -> x.game(1, 1, 1, 1, 0));
        refused("rests(1, 1)", NONE, x -> x.rests(1, 1, NONE));
        for (int more : outside(0, 3)) {
            refused("game(0, 1, " + more + ", 0)", HIDDEN, x -> x.game(0, 1, more, 0, 0));
            refused("game(0, 1, 0, " + more + ")", HIDDEN, x -> x.game(0, 1, 0, more, 1));
        }
        for (int what : outside(0, 1)) {
            refused("game(0, 1, 0, 0, " + what + ")", HIDDEN, x -> x.game(0, 1, 0, 0, what));
        }
        for (int i : new int[] {-2, 16, MIN, MAX}) {
            refused("rests(0, 1, " + i + ")", NONE, x -> x.rests(0, 1, i));
        }
    }

    private void noCity() {
        refused("rule(0)", NONE, x -> x.rule(0));
        refused("years(1, 1)", NONE, x -> x.years(1, 1));
        refused("run(0, 0)", HIDDEN, x -> x.run(0, 0));
        refused("perform(0)", NONE, x -> x.perform(0));
        refused("sees(0)", NONE, x -> x.sees(0));
        refused("least(1, 0)", NONE, x -> x.least(1, 0));
        refused("manners(1)", NONE, x -> x.manners(1));
        refused("ways(1, NONE)", NONE, x -> x.ways(1, NONE));
        refused("ask(1, 1)", NONE, x -> x.ask(1, 1));
        refused("always(1)", NONE, x -> x.always(1));
        refused("meets(0, 1)", NONE, x -> x.meets(0, 1));
        refused("odds(0, 1, 1)", NONE, x -> x.odds(0, 1, 1));
        refused("kinds(0)", NONE, x -> x.kinds(0));
        refused("image()", NONE, FreeAlderman::image);
        refused("back()", NONE, FreeAlderman::back);
        for (int what = 0; what < 10; what++) {
            int w = what;
            refused("all(" + what + ")", NONE, x -> x.all(w));
        }
    }
}
