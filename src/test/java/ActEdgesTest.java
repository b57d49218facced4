import java.math.BigInteger;

/** The edges of promises 11 to 18, 20, 21, 39 and 40: breath, hours and days at their ends, the log and the acts when they are full. */
public final class ActEdgesTest {
    private static final int NONE = Check.NONE;
    private static final String SIXTEEN_DAYS = "d;d;d;d;d;d;d;d;d;d;d;d;d;d;d;d";

    public static void main(String[] args) {
        homeIsNoPlace();
        breathToTheLast();
        hoursToTheLast();
        troubleWithinThirty();
        seenTheFirstTimeAlone();
        readingToTheLast();
        secretsHalved();
        patienceAtItsBounds();
        tooMuchIsAbovePatience();
        dayDecay();
        theLastDay();
        logIsFull();
        actsAreFull();
        undoneLog();
        runUpToThere();
        yearsAtTheirBounds();
        yearsByDraws();
        yearsOnTheLastDay();
        imagesAtTheirEdges();
        Check.close();
    }

    // "He is at HOME at first (x 0, y 0; in no PLACE, though one may be there)."; "(another one than where he is)"
    private static void homeIsNoPlace() {
        FreeAlderman x = Check.city("p;px1");
        Check.due("11: at home, in no place", x.count(8), NONE);
        Check.due("11: to the place that lies there", x.walk(0), 2);
        Check.due("11: by no step and an hour", x.count(6) * 100 + x.count(7), 100);
        Check.due("11: he is there", x.walk(0), NONE);
        Check.due("11: which changes nothing", x.count(6) * 100 + x.count(14), 101);
        for (int bad : new int[] {-1, 2, 3, 7, Integer.MIN_VALUE, Integer.MAX_VALUE}) {
            Check.due("11: walk(" + bad + ")", x.walk(bad), NONE);
            Check.due("13: restore(" + bad + ")", x.restore(bad), NONE);
            Check.due("14: patience(" + bad + ", 1)", x.patience(bad, 1), NONE);
        }
        Check.due("11: and none is an act", x.count(14), 1);
        x.day();
        Check.due("15: at home again, and may go there again", x.walk(0), 2);
        FreeAlderman none = new FreeAlderman();
        Check.due("11: no city", none.walk(0), NONE);
        Check.due("12: no city", none.ledge(), NONE);
        Check.due("13: no city", none.restore(0), NONE);
        Check.due("14: no city", none.patience(0, 1), NONE);
        Check.due("15: no city", none.day(), NONE);
        Check.due("16: no city", none.years(1, 1), NONE);
        Check.due("17: no city", none.undo(), NONE);
        Check.due("18: no city", none.log(0, 0), NONE);
    }

    // "it can't be, if he would be more TIRED than BREATH"
    private static void breathToTheLast() {
        for (int breath = 1; breath <= 18; breath++) {
            FreeAlderman x = Check.city("sb" + breath + "h60;px9y9;px9y8;px9y7;p");
            for (int place = 0; place < 3; place++) {
                int way = 18 - place;
                boolean can = way <= breath;
                Check.due("36: reach by breath " + breath, x.all(7) >> place & 1, can ? 1 : 0);
                Check.due("11: " + way + " steps by breath " + breath, x.walk(place), can ? 2 : NONE);
                if (can) {
                    Check.due("11: tired", x.count(7), way);
                    Check.due("36: breath left", x.all(8), breath - way);
                    x.undo();
                }
            }
        }
        FreeAlderman x = Check.city("sb3h60;px1;px2;px3;px4");
        x.walk(0);
        x.walk(1);
        Check.due("11: the last of his breath", x.walk(2), 2);
        Check.due("36: none is left", x.all(8), 0);
        Check.due("11: none is left", x.walk(3), NONE);
        Check.due("36: nor anywhere", x.all(7), 0);
        Check.due("11: changes nothing", x.count(7), 3);
        x.ledge();
        Check.due("11: rested", x.walk(3), 2);
        FreeAlderman z = Check.city("sb1;p;px1;px2");
        Check.due("11: one step by breath 1", z.walk(1), 2);
        Check.due("11: no step more", z.walk(0), NONE);
    }

    // "as many HOURS more and one there; it can't be, if .. it would be beyond HOURS"
    private static void hoursToTheLast() {
        for (int hours = 1; hours <= 20; hours++) {
            FreeAlderman x = Check.city("sb60h" + hours + ";px9y9;px9y8;px9y7;p");
            for (int place = 0; place < 3; place++) {
                int way = 18 - place;
                boolean can = way + 1 <= hours;
                Check.due("36: reach by hours " + hours, x.all(7) >> place & 1, can ? 1 : 0);
                Check.due("11: " + way + " steps by hours " + hours, x.walk(place), can ? 2 : NONE);
                if (can) {
                    Check.due("11: hour", x.count(6), way + 1);
                    x.undo();
                }
            }
        }
        FreeAlderman one = Check.city("sb60h1;p;px1");
        Check.due("11: two hours of one", one.walk(1), NONE);
        Check.due("11: one hour of one", one.walk(0), 2);
        Check.due("36: nowhere more", one.all(7), 0);
        FreeAlderman x = Check.city("sb60h60;p;px1");
        for (int i = 0; i < 30; i++) {
            Check.due("11: walk " + i, x.walk(i % 2) != NONE, true);
        }
        Check.due("11: hour 59", x.count(6), 59);
        Check.due("11: beyond 60", x.walk(0), NONE);
        Check.due("12: the sixtieth hour", x.ledge(), 26);
        Check.due("12: hour 60", x.count(6), 60);
        Check.due("12: beyond 60", x.ledge(), NONE);
        Check.due("12: changes nothing", x.count(6) * 100 + x.count(7), 6026);
    }

    // "TROUBLE .. held within 0 .. 30 (none at first: 4, and twice how often he was there today, less CONSIDERATION)"
    private static void troubleWithinThirty() {
        for (int consideration = 0; consideration <= 9; consideration++) {
            FreeAlderman x = Check.city("sb60h60c" + consideration + ";p;px1");
            for (int n = 0; n < 15; n++) {
                int want = Math.max(0, Math.min(30, 4 + 2 * n - consideration));
                Check.due("22: time " + n + " by consideration " + consideration, x.troubles(0), want);
                Check.due("11: time " + n + " by consideration " + consideration, x.walk(0), want);
                Check.due("11: the other one", x.walk(1), want);
            }
        }
        int[] worths = {0, 1, 29, 30, 31, 9999};
        for (int worth : worths) {
            FreeAlderman x = Check.city("sc0;p;px1");
            Check.hold(x, "y:" + worth);
            Check.due("11: worth " + worth, x.walk(1), Math.min(30, worth));
            Check.due("7: worth " + worth, Check.spot(x, 1, 5), Math.min(30, worth));
            Check.hold(x, "y:0-" + worth);
            Check.due("11: worth -" + worth, x.walk(0), 0);
            Check.due("7: worth -" + worth, Check.spot(x, 0, 5), 0);
        }
    }

    // "he has SEEN as much more as is SEEN there, the first time of a day alone"
    private static void seenTheFirstTimeAlone() {
        FreeAlderman x = Check.city("pv9;px1v0;px2v1");
        int[] today = {9, 9, 9, 10, 10};
        int[] walks = {0, 1, 0, 2, 0};
        for (int i = 0; i < walks.length; i++) {
            x.walk(walks[i]);
            Check.due("41: seen today behind walk " + i, x.count(9), today[i]);
            Check.due("41: seen in all behind walk " + i, x.count(10), today[i]);
        }
        x.day();
        Check.due("41: nothing seen today", x.count(9), 0);
        Check.due("41: in all", x.count(10), 10);
        x.walk(0);
        Check.due("41: seen again on another day", x.count(9), 9);
        Check.due("41: in all", x.count(10), 19);
    }

    // "He READS: an HOUR more, 3 less TIRED (0 at least; not beyond HOURS, not if he is not TIRED)."
    private static void readingToTheLast() {
        for (int way = 0; way <= 7; way++) {
            FreeAlderman x = Check.city("px" + way + ";px" + (way + 1));
            x.walk(0);
            Check.due("12: tired by " + way, x.ledge(), way == 0 ? NONE : Math.max(0, way - 3));
            Check.due("12: tired then", x.count(7), Math.max(0, way - 3));
            Check.due("12: hour", x.count(6), way + 1 + (way == 0 ? 0 : 1));
            Check.due("12: an act", x.count(14), way == 0 ? 1 : 2);
        }
        for (int hours = 6; hours <= 9; hours++) {
            FreeAlderman x = Check.city("sh" + hours + ";px5;px6");
            x.walk(0);
            Check.due("12: the first within " + hours, x.ledge(), hours >= 7 ? 2 : NONE);
            Check.due("12: the second within " + hours, x.ledge(), hours >= 8 ? 0 : NONE);
            Check.due("12: not tired, or beyond " + hours, x.ledge(), NONE);
            Check.due("12: hour", x.count(6), Math.min(hours, 8));
        }
        FreeAlderman home = Check.city("p;px1");
        Check.due("12: not tired at home", home.ledge(), NONE);
        Check.due("12: changes nothing", home.count(6) + home.count(14), 0);
    }

    // "He puts a SECRET BACK that he knows: TROUBLES of that PLACE are half, cut, and he knows it no more."
    private static void secretsHalved() {
        for (int trouble = 0; trouble <= 7; trouble++) {
            FreeAlderman x = Check.city("sc0;p;px1");
            Check.hold(x, "y:" + trouble);
            Check.due("13: not known yet", x.restore(1), NONE);
            x.walk(1);
            Check.due("13: not the other one's", x.restore(0), NONE);
            Check.due("36: knows it", x.all(0), 2);
            Check.due("13: half of " + trouble, x.restore(1), trouble / 2);
            Check.due("7: half of " + trouble, Check.spot(x, 1, 5), trouble / 2);
            Check.due("36: knows it no more", x.all(0), 0);
            Check.due("13: no more", x.restore(1), NONE);
            Check.due("13: which changes nothing", Check.spot(x, 1, 5), trouble / 2);
            Check.due("13: two acts", x.count(14), 2);
        }
        FreeAlderman seven = Check.city("p;px1;px2;px3;px4;px5;px6");
        seven.walk(6);
        Check.due("13: of the last place", seven.restore(6), 1);
        seven.undo();
        Check.due("17: known again", seven.all(0), 64);
        seven.day();
        Check.due("13: known on another day, 2 less 2", seven.restore(6), 0);
    }

    // "PATIENCE is set (0 .. 30)."; "NONE: no such PLACE, out of bounds, it is so."
    private static void patienceAtItsBounds() {
        FreeAlderman x = Check.city("p;px1o30");
        for (int v = -2; v <= 33; v++) {
            int was = Check.spot(x, 0, 4);
            boolean good = v >= 0 && v <= 30 && v != was;
            Check.due("14: patience(0, " + v + ")", x.patience(0, v), good ? was : NONE);
            Check.due("14: now", Check.spot(x, 0, 4), good ? v : was);
            Check.due("14: it is so, or out of bounds", x.patience(0, v), NONE);
        }
        Check.due("14: smallest", x.patience(0, Integer.MIN_VALUE), NONE);
        Check.due("14: largest", x.patience(0, Integer.MAX_VALUE), NONE);
        // 6 was so at first, but not any more when 6 came.
        Check.due("14: 31 acts", x.count(14), 31);
        Check.due("14: the other one's stays", Check.spot(x, 1, 4), 30);
    }

    // "TOOMUCH: PLACES (bits) with TROUBLES above PATIENCE."
    private static void tooMuchIsAbovePatience() {
        for (int patience = 4; patience <= 6; patience++) {
            FreeAlderman x = Check.city("sc0;px1o30;px2o" + patience);
            Check.hold(x, "y:5");
            x.walk(1);
            Check.due("36: 5 with patience " + patience, x.all(1), patience < 5 ? 2 : 0);
            x.day();
            Check.due("18: 5 with patience " + patience, x.log(0, 2), patience < 5 ? 2 : 0);
        }
        FreeAlderman none = Check.city("po0;px1o0");
        Check.due("36: no troubles are not above no patience", none.all(1), 0);
    }

    // "he is at HOME, HOUR 0, not TIRED, was nowhere today; TROUBLES of each PLACE are less by CONSIDERATION (0 at least)"
    private static void dayDecay() {
        for (int consideration = 0; consideration <= 9; consideration++) {
            FreeAlderman x = Check.city("sc" + consideration + ";p;px1;px2;px3");
            int[] troubles = {consideration, consideration + 1, Math.max(0, consideration - 1), 30};
            for (int place = 0; place < 4; place++) {
                Check.hold(x, "y:" + troubles[place]);
                x.walk(place);
            }
            x.day();
            Check.due("15: as much as consideration", Check.spot(x, 0, 5), 0);
            Check.due("15: one more than consideration", Check.spot(x, 1, 5), 1);
            Check.due("15: one less than consideration", Check.spot(x, 2, 5), 0);
            Check.due("15: thirty", Check.spot(x, 3, 5), 30 - consideration);
            for (int place = 0; place < 4; place++) {
                Check.due("15: was nowhere today", Check.spot(x, place, 6), 0);
            }
            Check.due("15: home", x.count(8), NONE);
            Check.due("15: hour 0, not tired", x.count(6) + x.count(7), 0);
        }
    }

    /** A city on a day, with 16 days told as DAYS 0. */
    private static FreeAlderman onDay(int day) {
        FreeAlderman x = Check.city("sc0;p;px1;px2");
        Check.tell(x, SIXTEEN_DAYS, 2);
        for (int i = 0; i < day / 16; i++) {
            x.perform(0);
        }
        for (int i = 0; i < day % 16; i++) {
            x.day();
        }
        Check.due("15: on day " + day, x.count(5), day);
        return x;
    }

    // "A DAY (0 at first; 999 at most: none goes by then)"; "DAYS go on behind 999, but not in RUN"
    private static void theLastDay() {
        FreeAlderman x = onDay(998);
        Check.due("20: one more can be", x.run(0, 0), 1);
        Check.due("15: day 999", x.day(), 999);
        x.walk(1);
        Check.due("15: beyond 999", x.day(), NONE);
        Check.due("15: changes nothing", x.count(8) * 10000 + x.count(5), 10999);
        Check.due("18: nor the log", x.log(0, 0), 0);
        Check.due("20: none can be", x.run(0, 0), 0);
        Check.due("21: none is done", x.perform(0), 0);
        Check.tell(x, "w0;d;w1", 2);
        Check.due("20: behind one", x.run(1, 0), 1);
        Check.due("20: seen in it", x.run(1, 1), 3);
        Check.due("21: up to there", x.perform(1), 1);
        Check.due("21: he is there", x.count(8), 0);
        x.patience(1, 0);
        x.patience(2, 0);
        Check.due("38: without consideration never", x.calm(1), NONE);
        x.undo();
        x.undo();
        x.undo();
        x.undo();
        x.undo();
        Check.due("17: day 998 again", x.count(5), 998);
        Check.due("15: and 999 again", x.day(), 999);
        Check.due("15: beyond 999", x.day(), NONE);
        FreeAlderman patient = Check.city("sc1;p;px1o0");
        Check.tell(patient, SIXTEEN_DAYS, 2);
        Check.hold(patient, "y:30");
        for (int i = 0; i < 63; i++) {
            patient.perform(0);
        }
        Check.due("21: 63 times 16 days are 999", patient.count(5), 999);
        patient.walk(1);
        Check.due("38: thirty days go on behind 999", patient.calm(1), 30);
    }

    // "LOG: each DAY as it ends .. (the latest 60)"
    private static void logIsFull() {
        FreeAlderman x = Check.city("sc0b60h60;p;px1v1;px2v2;px3v4;px4v8");
        Check.due("41: an empty log", x.count(13), 0);
        Check.due("18: an empty log", x.log(0, 0), NONE);
        for (int day = 0; day < 63; day++) {
            // Which day it was can be read from what was seen: the places by its bits.
            x.walk(1 + day % 4);
            x.day();
            int length = Math.min(60, day + 1);
            Check.due("41: log behind " + (day + 1) + " days", x.count(13), length);
            Check.due("18: the oldest", x.log(length - 1, 1), 1 << (day + 1 - length) % 4);
            Check.due("18: none is older", x.log(length, 1), NONE);
        }
        for (int i = 0; i < 60; i++) {
            Check.due("18: hours " + i, x.log(i, 0), 2 + (62 - i) % 4);
            Check.due("18: seen " + i, x.log(i, 1), 1 << (62 - i) % 4);
        }
        for (int bad : new int[] {-1, 60, 61, 63, Integer.MIN_VALUE, Integer.MAX_VALUE}) {
            Check.due("18: log(" + bad + ", 0)", x.log(bad, 0), NONE);
        }
        for (int bad : new int[] {-1, 3, Integer.MIN_VALUE, Integer.MAX_VALUE}) {
            Check.due("18: log(0, " + bad + ")", x.log(0, bad), NONE);
        }
    }

    // "the latest 40 can be UNDONE one by one"
    private static void actsAreFull() {
        for (int acts = 38; acts <= 43; acts++) {
            FreeAlderman x = Check.city("p;px1");
            for (int i = 1; i <= acts; i++) {
                x.patience(0, i % 2 == 0 ? 1 : 2 + i / 2);
                Check.due("41: acts", x.count(14), Math.min(40, i));
            }
            int can = Math.min(40, acts);
            for (int i = can - 1; i >= 0; i--) {
                Check.due("17: how many still can be", x.undo(), i);
            }
            Check.due("17: none", x.undo(), NONE);
            Check.due("17: none", x.undo(), NONE);
            int left = acts - can;
            Check.due("17: as it was behind act " + left, Check.spot(x, 0, 4), left == 0 ? 6 : left % 2 == 0 ? 1 : 2 + left / 2);
            x.walk(1);
            Check.due("17: acts anew", x.count(14), 1);
            Check.due("17: acts anew", x.undo(), 0);
        }
    }

    // "(LOG, too)": 40 days undone on a full log bring back the 40 that it had lost.
    private static void undoneLog() {
        FreeAlderman x = Check.city("sc0b60h60;p;px1v1;px2v2;px3v4;px4v8");
        Check.tell(x, SIXTEEN_DAYS, 2);
        for (int day = 0; day < 60; day++) {
            x.walk(1 + day % 4);
            x.day();
        }
        x.perform(0);
        x.perform(0);
        for (int i = 0; i < 8; i++) {
            x.day();
        }
        Check.due("18: 40 empty days", x.log(39, 1), 0);
        Check.due("18: and then the last of the others", x.log(40, 1), 8);
        Check.due("18: the oldest that is kept", x.log(59, 1), 1);
        Check.due("17: one", x.undo(), 39);
        Check.due("18: one is back", x.log(59, 1), 8);
        for (int i = 0; i < 39; i++) {
            x.undo();
        }
        Check.due("41: day 60", x.count(5), 60);
        Check.due("41: a full log", x.count(13), 60);
        for (int i = 0; i < 60; i++) {
            Check.due("18: as it was " + i, x.log(i, 1), 1 << (59 - i) % 4);
        }
        Check.due("17: none", x.undo(), NONE);
        FreeAlderman y = Check.city("p;px1");
        y.day();
        y.undo();
        Check.due("17: an empty log again", y.count(13), 0);
        Check.due("17: an empty log again", y.log(0, 0), NONE);
    }

    // "RUN of DAYS told: behind how many STEPS the first is that can't be; how much he SEES in them. DO: its STEPS as ACTS, up to there."
    private static void runUpToThere() {
        String walks = "w0;w1;w0;w1;w0;w1;w0;w1;w0;w1;w0;w1;w0;w1;w0;w1";
        for (int hours = 1; hours <= 33; hours++) {
            FreeAlderman x = Check.city("sb60h" + hours + ";pv2;px1v5");
            Check.tell(x, walks, 2);
            // The first walk takes one hour, each other one two.
            int can = Math.min(16, (hours + 1) / 2);
            Check.due("20: within hours " + hours, x.run(0, 0), can == 16 ? NONE : can);
            Check.due("20: seen", x.run(0, 1), can == 0 ? 0 : can == 1 ? 2 : 7);
            Check.due("20: apart", x.count(14), 0);
            Check.due("21: within hours " + hours, x.perform(0), can);
            Check.due("21: as acts", x.count(14), can);
            Check.due("21: seen", x.count(9), can == 1 ? 2 : 7);
        }
        FreeAlderman x = Check.city("p;px1");
        Check.due("20: no days", x.run(0, 0), Check.HIDDEN);
        Check.due("21: no days", x.perform(0), NONE);
        Check.tell(x, "w1;d", 2);
        for (int bad : new int[] {-1, 1, 4, Integer.MIN_VALUE, Integer.MAX_VALUE}) {
            Check.due("20: run(" + bad + ", 0)", x.run(bad, 0), Check.HIDDEN);
            Check.due("20: run(" + bad + ", 1)", x.run(bad, 1), Check.HIDDEN);
            Check.due("21: perform(" + bad + ")", x.perform(bad), NONE);
        }
        for (int bad : new int[] {-1, 2, Integer.MIN_VALUE, Integer.MAX_VALUE}) {
            Check.due("20: run(0, " + bad + ")", x.run(0, bad), Check.HIDDEN);
        }
        Check.due("20: all can be", x.run(0, 0), NONE);
        FreeAlderman none = new FreeAlderman();
        Check.tell(none, "d", 2);
        Check.due("20: no city", none.run(0, 0), Check.HIDDEN);
        Check.due("20: no city", none.run(0, 1), Check.HIDDEN);
        Check.due("21: no city", none.perform(0), NONE);
        // 41 acts by three times sixteen and less: the first can't be undone any more.
        FreeAlderman many = Check.city("p;px1");
        Check.tell(many, SIXTEEN_DAYS, 2);
        many.perform(0);
        many.perform(0);
        many.perform(0);
        Check.due("21: 48 acts, 40 of them can be undone", many.count(14), 40);
    }

    // "n (1 .. 60) ACTS"
    private static void yearsAtTheirBounds() {
        for (int bad : new int[] {0, -1, 61, 62, Integer.MIN_VALUE, Integer.MAX_VALUE}) {
            FreeAlderman x = Check.city("p;px1");
            Check.due("16: years(" + bad + ")", x.years(bad, 7), NONE);
            Check.due("16: changes nothing", x.count(14) + x.count(5) + x.count(6), 0);
        }
        for (int n = 1; n <= 60; n++) {
            FreeAlderman x = Check.city("p;px1");
            Check.due("16: years(" + n + ")", x.years(n, 7) >= 0, true);
            Check.due("16: so many acts", x.count(14), Math.min(40, n));
        }
    }

    private static final BigInteger ROUND = BigInteger.ONE.shiftLeft(64);

    private static BigInteger next(BigInteger x) {
        return x.multiply(new BigInteger("6364136223846793005")).add(new BigInteger("1442695040888963407")).mod(ROUND);
    }

    private static int draw(BigInteger x, int sides) {
        return x.shiftRight(33).mod(BigInteger.valueOf(sides)).intValue();
    }

    // "below GOUT (0 .. 9; 2 at first) a DAY goes by, if it can; else a draw of how many PLACES there are: he WALKS there, if
    // it can be, else he READS, if that can be."; "(64 bits, going round); .. (x shifted right by 33, without sign)"
    private static void yearsByDraws() {
        long[] seeds = {0, 1, -1, Long.MIN_VALUE, Long.MAX_VALUE, 6364136223846793005L, -1442695040888963407L, 1L << 33, 123456789};
        for (int gout = 0; gout <= 9; gout++) {
            for (long seed : seeds) {
                for (int places = 2; places <= 7; places++) {
                    followYears(gout, seed, places);
                }
            }
        }
    }

    private static void followYears(int gout, long seed, int places) {
        String city = "sb5h12;p;px1;py1;px1y1;px2;py2;px2y2";
        int[] ends = {0, 0, 12, 16, 22, 26, 30, 36};
        FreeAlderman x = Check.city(city.substring(0, ends[places]));
        FreeAlderman hand = Check.city(city.substring(0, ends[places]));
        x.gout(gout);
        int walks = 0;
        BigInteger drawn = BigInteger.valueOf(seed).mod(ROUND);
        for (int i = 0; i < 60; i++) {
            drawn = next(drawn);
            if (draw(drawn, 10) < gout) {
                hand.day();
            } else {
                drawn = next(drawn);
                if (hand.walk(draw(drawn, places)) != NONE) {
                    walks++;
                } else {
                    hand.ledge();
                }
            }
        }
        String which = "16: gout " + gout + ", seed " + seed + ", places " + places;
        Check.due(which, x.years(60, seed), walks);
        for (int what : new int[] {5, 6, 7, 8, 9, 10, 13}) {
            Check.due(which + " count(" + what + ")", x.count(what), hand.count(what));
        }
        for (int place = 0; place < places; place++) {
            Check.due(which + " troubles", Check.spot(x, place, 5), Check.spot(hand, place, 5));
        }
        Check.due(which + " acts", x.count(14), 40);
        if (gout == 0) {
            Check.due(which + ": no day", x.count(5), 0);
        }
    }

    // "a DAY goes by, if it can"; "Each is one ACT (also if nothing came of it)."
    private static void yearsOnTheLastDay() {
        FreeAlderman x = onDay(999);
        x.gout(9);
        String before = Check.portrait(x);
        // The first draw of seed 0 is 7 of 10 (see ActsTest), so below 9: but no day can go by.
        Check.due("16: no walk", x.years(1, 0), 0);
        Check.same("16: nothing came of it", Check.portrait(x), before);
        Check.due("17: an act all the same", x.undo(), 39);
        Check.same("17: of which nothing is to be undone but itself", Check.portrait(x).replace(" 39 ", " 40 "), before);
        x.gout(7);
        Check.due("16: 7 is not below 7: he walks", x.years(1, 0), 1);
    }

    // "An IMAGE (instead of the one ahead): the DAY. NONE: no CITY."; "BACK: the DAY. NONE: no IMAGE of this CITY."
    private static void imagesAtTheirEdges() {
        FreeAlderman none = new FreeAlderman();
        Check.due("39: no city", none.image(), NONE);
        Check.due("40: no city", none.back(), NONE);
        FreeAlderman x = Check.city("sc0b60h60;p;px1v1;px2v2;px3v4;px4v8");
        Check.due("40: no image", x.back(), NONE);
        for (int day = 0; day < 60; day++) {
            x.walk(1 + day % 4);
            x.day();
        }
        x.walk(4);
        x.patience(4, 0);
        Check.due("39: day 60", x.image(), 60);
        String before = Check.portrait(x);
        Check.tell(x, SIXTEEN_DAYS, 2);
        x.perform(0);
        x.perform(0);
        x.perform(0);
        x.perform(0);
        Check.due("18: all that it had is gone", x.log(59, 1), 0);
        Check.due("40: day 60", x.back(), 60);
        Check.due("40: no act can be undone", x.count(14), 0);
        Check.due("40: no act can be undone", x.undo(), NONE);
        Check.due("41: a full log", x.count(13), 60);
        for (int i = 0; i < 60; i++) {
            Check.due("40: the log as it was " + i, x.log(i, 1), 1 << (59 - i) % 4);
        }
        Check.due("40: patience", Check.spot(x, 4, 4), 0);
        Check.due("40: where he was today", Check.spot(x, 4, 6), 1);
        Check.due("40: once more", x.back(), 60);
        Check.due("40: there was something to be kept", before.length() > 100, true);
        FreeAlderman first = Check.city("p;px1");
        Check.due("39: of a new city", first.image(), 0);
        first.day();
        Check.due("39: instead of the one ahead", first.image(), 1);
        first.undo();
        Check.due("40: the later one", first.back(), 1);
        Check.due("41: day 1", first.count(5), 1);
        Check.tell(first, "p;px1", 0);
        Check.due("40: not of this city", first.back(), NONE);
        Check.due("39: of this one", first.image(), 0);
        first.walk(1);
        Check.due("40: of this one", first.back(), 0);
        Check.due("40: home", first.count(8), NONE);
        Check.tape(first, "p;px0");
        Check.due("5: a city that has a fault", first.text(0), NONE);
        Check.due("40: takes no image away", first.back(), 0);
    }
}
