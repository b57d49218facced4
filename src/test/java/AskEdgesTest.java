/** The edges of promises 22 to 38 and 41: rows, sets, hours, chances and showings at their bounds, and what is alike. */
public final class AskEdgesTest {
    private static final int NONE = Check.NONE;
    private static final int HIDDEN = Check.HIDDEN;
    private static final int[] FAR = {Integer.MIN_VALUE, Integer.MIN_VALUE + 1, -1000000, 1000000, Integer.MAX_VALUE};
    private static final String SEVEN = "p;px1;px2;px3;px4;px5;px6";

    public static void main(String[] args) {
        noCity();
        troublesOfNoPlace();
        troublesWhereHeIs();
        seesToTheLast();
        seesWithinPatience();
        seesOfSeveral();
        seesByLaw();
        seesTimeAndAgain();
        leastOfSets();
        leastToTheLast();
        mannersUpToNine();
        mannersOfThoseThatCanBe();
        putsUpToTen();
        putsByTheHour();
        waysAtTheirBounds();
        askOfSeveral();
        alwaysInAll();
        roundByKinds();
        rowsAtTheirBounds();
        meetsForTwoHours();
        gameAtItsBounds();
        gameOfBothAlike();
        restsAtTheirBounds();
        oddsAtTheirBounds();
        oddsAreCut();
        costAndKinds();
        allOfSeveral();
        calmUpToSixty();
        countsOfOthers();
        Check.close();
    }

    private static void noCity() {
        FreeAlderman x = new FreeAlderman();
        Check.tell(x, "d", 2);
        Check.hold(x, "y:1");
        Check.due("22", x.troubles(0), NONE);
        for (int what = -1; what <= 10; what++) {
            Check.due("23", x.sees(what), NONE);
            Check.due("24", x.least(1, what), NONE);
            Check.due("36", x.all(what), NONE);
            Check.due("37", x.kinds(what), NONE);
        }
        x.law(NONE);
        for (int places = -1; places <= 128; places++) {
            Check.due("25", x.manners(places), NONE);
        }
        for (int k = 0; k <= 5; k++) {
            Check.due("27", x.ways(k, NONE), NONE);
            Check.due("28", x.ask(k, 0), NONE);
            Check.due("29", x.always(k), NONE);
        }
        Check.due("26", x.noted(0, 0, false), NONE);
        Check.due("41: nothing put", x.count(12), 0);
        Check.due("30", x.round(0), NONE);
        Check.due("31", x.meets(0, 1), NONE);
        Check.due("32", x.game(0, 1, 0, 0, 0), HIDDEN);
        Check.due("33", x.rests(0, 1, NONE), NONE);
        Check.due("34", x.odds(0, 1, 0), NONE);
        Check.due("35", x.cost(0), NONE);
        Check.due("38", x.calm(0), NONE);
    }

    // "NONE: no such PLACE."
    private static void troublesOfNoPlace() {
        for (int places = 2; places <= 7; places++) {
            FreeAlderman x = Check.city(SEVEN.substring(0, places * 4 - 3));
            int[] bad = {-1, places, places + 1, Integer.MIN_VALUE, Integer.MAX_VALUE};
            for (int place : bad) {
                Check.due("22: troubles(" + place + ")", x.troubles(place), NONE);
                Check.due("26: noted(" + place + ")", x.noted(place, 1, true), NONE);
                Check.due("30: round(" + place + ")", x.round(place), NONE);
                Check.due("32: game(" + place + ")", x.game(place, 0, 0, 0, 0), HIDDEN);
                Check.due("32: game(0, " + place + ")", x.game(0, place, 0, 0, 0), HIDDEN);
                Check.due("33: rests(" + place + ")", x.rests(place, 0, NONE), NONE);
                Check.due("33: rests(0, " + place + ")", x.rests(0, place, NONE), NONE);
                Check.due("35: cost(" + place + ")", x.cost(place), NONE);
                Check.due("38: calm(" + place + ")", x.calm(place), NONE);
            }
            int last = places - 1;
            Check.due("22: the last", x.troubles(last), 2);
            Check.due("26: the last", x.noted(last, 1, true), 1);
            Check.due("30: the last", x.round(last), 3 * last);
            Check.due("32: the last", x.game(last, 0, 3, 0, 0), 8 - 2 - 3);
            Check.due("33: the last", x.rests(0, last, NONE) >= 0, true);
            Check.due("35: the last", x.cost(last), 2 * last);
            Check.due("38: the last", x.calm(last), 0);
        }
    }

    // "TROUBLES of a PLACE, if he came there now (whether it can be or not; where he is: 0 STEPS): TROUBLE."
    private static void troublesWhereHeIs() {
        FreeAlderman x = Check.city("sb1h2;px1;px9y9");
        Check.hold(x, "y:h+t*2");
        Check.due("22: 18 steps by one breath and two hours, held at 30", x.troubles(1), 30);
        Check.hold(x, "y:h");
        Check.due("22: the hour beyond hours", x.troubles(1), 18);
        Check.hold(x, "y:t");
        Check.due("22: tired beyond breath", x.troubles(1), 18);
        x.walk(0);
        Check.due("22: where he is 0 steps", x.troubles(0), 1);
        Check.due("22: from where he is", x.troubles(1), 1 + 17);
        x.law(1);
        Check.due("22: where he is, the hour now", x.troubles(0), 2);
        Check.hold(x, "y:n");
        Check.due("22: where he is he was once", x.troubles(0), 1);
        Check.due("22: where he was not", x.troubles(1), 0);
    }

    // "SEES .. to which he WALKS one behind the other from now on (if each can be)"; "no such what"
    private static void seesToTheLast() {
        for (int hours = 1; hours <= 8; hours++) {
            FreeAlderman x = Check.city("sb60h" + hours + ";px1;px2;px3");
            // The first by hour 2, the second by 4, the third by 6.
            int some = Math.min(3, hours / 2);
            int[] rows = {NONE, 0, 1, 12};
            Check.due("23: row within hours " + hours, x.sees(0), rows[some]);
            Check.due("23: how much within hours " + hours, x.sees(1), 3 * some);
            Check.due("23: hour within hours " + hours, x.sees(2), 2 * some);
        }
        for (int breath = 1; breath <= 4; breath++) {
            FreeAlderman x = Check.city("sb" + breath + "h60;px1;px2;px3");
            int some = Math.min(3, breath);
            int[] rows = {NONE, 0, 1, 12};
            Check.due("23: row by breath " + breath, x.sees(0), rows[some]);
            Check.due("23: how much by breath " + breath, x.sees(1), 3 * some);
        }
        FreeAlderman seven = Check.city("sb60h60;p;px1;px2;px3;px4;px5;px6");
        Check.due("23: all seven", seven.sees(0), 123456);
        Check.due("23: all seven", seven.sees(1), 21);
        Check.due("23: all seven", seven.sees(2), 13);
        for (int what : new int[] {-1, 3, Integer.MIN_VALUE, Integer.MAX_VALUE}) {
            Check.due("23: sees(" + what + ")", seven.sees(what), NONE);
        }
        seven.walk(0);
        Check.due("23: not to where he is", seven.sees(0), 123456);
        Check.due("23: six more", seven.sees(1), 18);
    }

    // "so that no PLACE is TOOMUCH then that is not now"
    private static void seesWithinPatience() {
        for (int patience = 1; patience <= 5; patience++) {
            FreeAlderman x = Check.city("sc1;px1o" + patience + ";py9o0");
            Check.due("23: trouble 3 with patience " + patience, x.sees(0), patience >= 3 ? 0 : NONE);
            Check.due("23: hour with patience " + patience, x.sees(2), patience >= 3 ? 2 : 0);
        }
        FreeAlderman x = Check.city("sc0;px1o4;py1o30");
        x.walk(0);
        x.patience(0, 3);
        x.day();
        Check.due("23: too much now, it may be more", x.sees(0), 1);
        x.patience(0, 4);
        Check.due("23: not too much now, but it would be", x.sees(0), 1);
        Check.due("23: so the other one alone", x.sees(1), 3);
        x.patience(0, 8);
        Check.due("23: just within patience", x.sees(1), 6);
    }

    // "(of several the fewest PLACES, then the least row)"
    private static void seesOfSeveral() {
        Check.due("23: nothing to see: no place is fewer", Check.city("pv0;px1v0").sees(0), NONE);
        Check.due("23: one place is fewer than two", Check.city("pv0;px1v5").sees(0), 1);
        Check.due("23: one of two by breath, the lower", Check.city("sb3;px3v5;py3v5").sees(0), 0);
        Check.due("23: one of two by breath, the finer", Check.city("sb3;px3v5;py3v6").sees(0), 1);
        Check.due("23: the fewer of as much", Check.city("sb9h20;px1v2;px2v3;py9v5").sees(0), 2);
        Check.due("23: the least row of as many", Check.city("px2;px1").sees(0), 1);
        Check.due("23: of rows of three", Check.city("px3;px2;px1").sees(0), 12);
        // A longer row that goes by a place with nothing to be seen comes first (012): the fewer is still found behind it.
        Check.due("23: the fewer behind a longer one", Check.city("pv0;px1;py1;px2v0").sees(0), 12);
        Check.due("23: the fewer, and its hour", Check.city("pv0;px1;py1;px2v0").sees(2), 5);
        Check.due("23: the fewer of all seven", Check.city("pv0;px1v0;px2v0;px3;px4;px5v0;px6v0").sees(0), 34);
        FreeAlderman x = Check.city("px3;px2;px1");
        x.walk(0);
        Check.due("23: a place that was seen today is not gone to", x.sees(0), 12);
        x.walk(1);
        Check.due("23: and but one is left", x.sees(0), 2);
    }

    // TROUBLE on the way is by the HOUR as he comes, how TIRED he is then, and what is SEEN there as it is.
    private static void seesByLaw() {
        String[] laws = {"t", "h", "v+2", "o", "k+5", "n+5"};
        for (String law : laws) {
            // Place 0 by 2 steps, place 1 by 3 more: tired 2 and 5, hours 2 and 6 (the other way 5 and 9); 5 by v, o, k and n.
            FreeAlderman x = Check.city("px2o8;px5o5");
            Check.hold(x, "y:" + law);
            Check.due("23: by " + law, x.sees(1), law.equals("h") ? 3 : 6);
            x.patience(1, 6);
            Check.due("23: with patience 6 by " + law, x.sees(1), 6);
            x.patience(1, 4);
            boolean alone = law.equals("o");
            Check.due("23: with patience 4 by " + law, x.sees(1), alone ? 6 : 3);
        }
    }

    // Each answer is of now, whatever was asked ahead.
    private static void seesTimeAndAgain() {
        FreeAlderman x = Check.city("px1;px2");
        Check.due("23: both", x.sees(0), 1);
        x.walk(0);
        Check.due("23: one", x.sees(0), 1);
        Check.due("23: one", x.sees(1), 3);
        x.walk(1);
        Check.due("23: none", x.sees(0), NONE);
        Check.due("23: none", x.sees(1), 0);
        Check.due("23: none", x.sees(2), 4);
        x.day();
        Check.due("23: both", x.sees(2), 4);
        Check.due("24: both", x.least(3, 0), 1);
        Check.due("24: one", x.least(2, 1), 2);
        Check.due("23: both", x.sees(1), 6);
    }

    // "LEAST for a set of PLACES (bits, at least one): rows of just these, each once"; "no such set, no such what"
    private static void leastOfSets() {
        for (int places = 2; places <= 7; places++) {
            FreeAlderman x = Check.city(SEVEN.substring(0, places * 4 - 3));
            int all = (1 << places) - 1;
            for (int set : new int[] {0, -1, all + 1, all + 2, all * 2 + 1, 1 << 7, 1 << 30, 1 << 31, Integer.MAX_VALUE}) {
                Check.due("24: least(" + set + ") of " + places, x.least(set, 0), NONE);
                Check.due("24: least(" + set + ") of " + places, x.least(set, 1), NONE);
                Check.due("25: manners(" + set + ") of " + places, x.manners(set), NONE);
            }
            for (int what : new int[] {-1, 2, Integer.MIN_VALUE, Integer.MAX_VALUE}) {
                Check.due("24: least(1, " + what + ")", x.least(1, what), NONE);
            }
            int row = 0;
            for (int place = 0; place < places; place++) {
                row = row * 10 + place;
                Check.due("24: one alone", x.least(1 << place, 0), place);
                Check.due("24: two more", x.least(1 << place, 1), 2);
            }
            Check.due("24: all, the least row", x.least(all, 0), row);
            Check.due("24: all", x.least(all, 1), 2 * places);
            Check.due("25: all", x.manners(all), 0);
        }
        FreeAlderman none = Check.city("sc9;p;px1");
        Check.due("24: none more at all", none.least(3, 1), 0);
        Check.due("24: the least row", none.least(3, 0), 1);
        FreeAlderman much = Check.city("sb60h60;p;px1;px2;px3;px4;px5;px6");
        Check.hold(much, "y:30");
        Check.due("24: thirty each", much.least(127, 1), 210);
    }

    // "to which he WALKS (if it can be)"; "NONE: there is none"
    private static void leastToTheLast() {
        for (int hours = 1; hours <= 8; hours++) {
            FreeAlderman x = Check.city("sb60h" + hours + ";px1;px2;px3");
            Check.due("24: one within hours " + hours, x.least(1, 0), hours >= 2 ? 0 : NONE);
            Check.due("24: the second within hours " + hours, x.least(2, 0), hours >= 3 ? 1 : NONE);
            Check.due("24: both within hours " + hours, x.least(3, 0), hours >= 4 ? 1 : NONE);
            Check.due("24: all within hours " + hours, x.least(7, 1), hours >= 6 ? 6 : NONE);
        }
        for (int breath = 1; breath <= 5; breath++) {
            FreeAlderman x = Check.city("sb" + breath + "h60;px1;px2;px3");
            Check.hold(x, "y:9-t");
            // By t: 0 first has 8 and 9 less the second's; the other way is more tiring, so less trouble.
            int[] want = {NONE, NONE, 1, 10, 10, 10};
            Check.due("24: two by breath " + breath, x.least(3, 0), want[breath]);
            Check.due("24: all by breath " + breath, x.least(7, 0) != NONE, breath >= 3);
        }
        FreeAlderman x = Check.city("px1;px2");
        x.walk(0);
        Check.due("24: not to where he is", x.least(1, 0), NONE);
        Check.due("24: but behind another one", x.least(3, 0), 10);
        Check.due("24: the second time there", x.least(3, 1), 2 + 4);
    }

    // "by how much CONSIDERATION would have to be more at least (9 in all at most; without a LAW)"
    private static void mannersUpToNine() {
        for (int has = 0; has <= 9; has++) {
            for (int patience = 0; patience <= 5; patience++) {
                FreeAlderman x = Check.city("sc" + has + ";p;px1o" + patience);
                int wants = Math.max(0, 4 - patience - has);
                Check.due("25: consideration " + has + ", patience " + patience, x.manners(2), wants);
            }
            // He was there n times: 4 + 2n more, so with no patience left 4 + 2n have to be had in all.
            FreeAlderman y = Check.city("sb60h60c" + has + ";px1o30;px2o30");
            for (int n = 1; n <= 4; n++) {
                y.walk(0);
                y.walk(1);
                y.patience(0, Check.spot(y, 0, 5));
                int inAll = 4 + 2 * n;
                int want = inAll <= has ? 0 : inAll > 9 ? NONE : inAll - has;
                Check.due("25: consideration " + has + ", was there " + n, y.manners(1), want);
                y.patience(0, 30);
            }
        }
        FreeAlderman x = Check.city("sc0;px1o0;px2o0");
        Check.due("25: four more", x.manners(3), 4);
        Check.hold(x, "y:0");
        Check.due("25: a law holds", x.manners(3), NONE);
        x.law(NONE);
        Check.due("25: none holds again", x.manners(3), 4);
    }

    // "as he WALKS to told ones (bits) by numbers from now on (those that can be), no PLACE is TOOMUCH then"
    private static void mannersOfThoseThatCanBe() {
        FreeAlderman x = Check.city("sc0b4h60;px4o30;px5o0;px3o0;px1o30");
        Check.due("25: none that can be", x.manners(2), 0);
        Check.due("25: by numbers: the first and then the third can't be", x.manners(5), 0);
        Check.due("25: the third alone", x.manners(4), 4);
        Check.due("25: the second can't be, but the third", x.manners(6), 4);
        FreeAlderman hours = Check.city("sc0b60h5;px4o30;px5o0;px3o0");
        Check.due("25: by hours the second can't be", hours.manners(2), 0);
        Check.due("25: by hours nothing behind the first", hours.manners(7), 0);
        FreeAlderman much = Check.city("sc0;px1o0;px2o30");
        much.walk(0);
        Check.due("25: a place that is not told is too much", much.manners(2), NONE);
        much.patience(0, 4);
        Check.due("25: now it is not", much.manners(2), 0);
        Check.due("25: where he is he can't walk to", much.manners(1), 0);
    }

    // "PUT (10 at most)"; "NONE: no such PLACE, out of bounds, there are ten."
    private static void putsUpToTen() {
        FreeAlderman x = Check.city("p;px1;px2");
        for (int n = 1; n <= 10; n++) {
            for (int t : new int[] {-1, 61, Integer.MIN_VALUE, Integer.MAX_VALUE}) {
                Check.due("26: by hour " + t, x.noted(0, t, true), NONE);
            }
            Check.due("41: changes nothing", x.count(12), n - 1);
            Check.due("26: the " + n + "th", x.noted(n % 2, n == 1 ? 60 : n == 2 ? 0 : n, n % 2 != 0), n);
            Check.due("41: " + n, x.count(12), n);
        }
        int ways = x.ways(2, NONE);
        for (int place = 0; place < 3; place++) {
            Check.due("26: there are ten", x.noted(place, 0, false), NONE);
            Check.due("26: there are ten", x.noted(place, 60, true), NONE);
        }
        Check.due("41: ten", x.count(12), 10);
        Check.due("27: as many ways", x.ways(2, NONE), ways);
        x.day();
        x.undo();
        Check.due("41: acts leave them", x.count(12), 10);
        Check.due("5: a new city", Check.tell(x, "p;px1;px2", 0), 3);
        Check.due("41: none", x.count(12), 0);
        Check.due("26: anew", x.noted(0, 0, true), 1);
    }

    // "by the HOUR t (0 .. 60) of a day, from HOME, he had been in a PLACE, or had not"; "(.. been: as he comes)"
    private static void putsByTheHour() {
        for (int t = 0; t <= 60; t++) {
            // Alone: 0 by hour 0, 1 by 4, 2 by 9. Then 1 behind 0 by 5, 0 behind 1 by 9, 2 behind 0 by 10 ..
            FreeAlderman x = Check.city("sb1h1;p;px4;px9");
            Check.due("26: by hour " + t, x.noted(1, t, true), 1);
            Check.due("27: one, by hour " + t, x.ways(1, NONE), t >= 4 ? 1 : 0);
            // 10 and 12 by 4, 01 by 5, 21 by 9 + 1 + 5.
            Check.due("27: two, by hour " + t, x.ways(2, NONE), t >= 15 ? 4 : t >= 5 ? 3 : t >= 4 ? 2 : 0);
            FreeAlderman y = Check.city("sb1h1;p;px4;px9");
            y.noted(1, t, false);
            Check.due("27: one, not by hour " + t, y.ways(1, NONE), t >= 4 ? 2 : 3);
            Check.due("27: two, not by hour " + t, y.ways(2, NONE), t >= 15 ? 2 : t >= 5 ? 3 : t >= 4 ? 4 : 6);
        }
        FreeAlderman x = Check.city("sb1h1;px9y9;py9;px9");
        x.noted(0, 60, true);
        // 0 is first of three by 18, second by 9 + 1 + 9 = 19, third by 9 + 1 + 18 + 1 + 9 = 38.
        Check.due("27: breath and hours do not matter", x.ways(3, NONE), 6);
        x.noted(0, 38, true);
        Check.due("27: by 38", x.ways(3, NONE), 6);
        x.noted(0, 37, true);
        Check.due("27: by 37", x.ways(3, NONE), 4);
        x.noted(0, 18, true);
        Check.due("27: by 18", x.ways(3, NONE), 2);
        x.noted(0, 17, true);
        Check.due("27: by 17", x.ways(3, NONE), 0);
        Check.due("27: the first of none", x.ways(3, 0), NONE);
    }

    // "WAYS for k (1 .. 4): rows of k unlike PLACES ..: how many, the i-th (rising)"; "NONE: no such one, no CITY, out of bounds."
    private static void waysAtTheirBounds() {
        int[][] number = {{2, 2, 0, 0}, {3, 6, 6, 0}, {4, 12, 24, 24}, {5, 20, 60, 120}, {6, 30, 120, 360}, {7, 42, 210, 840}};
        for (int places = 2; places <= 7; places++) {
            FreeAlderman x = Check.city(SEVEN.substring(0, places * 4 - 3));
            for (int k = 1; k <= 4; k++) {
                int some = number[places - 2][k - 1];
                Check.due("27: " + k + " of " + places, x.ways(k, NONE), some);
                Check.due("27: none behind the last", x.ways(k, some), NONE);
                Check.due("27: none behind the last", x.ways(k, Integer.MAX_VALUE), NONE);
                Check.due("27: -2", x.ways(k, -2), NONE);
                Check.due("27: smallest", x.ways(k, Integer.MIN_VALUE), NONE);
                int low = 0;
                int high = 0;
                for (int i = 0; i < k; i++) {
                    low = low * 10 + i;
                    high = high * 10 + places - 1 - i;
                }
                Check.due("27: the first", x.ways(k, 0), some == 0 ? NONE : low);
                Check.due("27: the last", x.ways(k, some - 1), some == 0 ? 0 : high);
                Check.due("28: asks", x.ask(k, 0) == NONE, some == 0);
                Check.due("29: always", x.always(k) == NONE, some == 0);
            }
            for (int k : new int[] {0, 5, -1, 7, Integer.MIN_VALUE, Integer.MAX_VALUE}) {
                Check.due("27: k " + k, x.ways(k, NONE), NONE);
                Check.due("27: k " + k, x.ways(k, 0), NONE);
                Check.due("28: k " + k, x.ask(k, 0), NONE);
                Check.due("29: k " + k, x.always(k), NONE);
            }
            for (int t : new int[] {-1, 61, Integer.MIN_VALUE, Integer.MAX_VALUE}) {
                Check.due("28: t " + t, x.ask(1, t), NONE);
            }
            Check.due("28: t 0", x.ask(1, 0), 0);
            Check.due("28: t 60", x.ask(1, 60), 0);
        }
        FreeAlderman four = Check.city("p;px1;px2;px3");
        int before = NONE;
        for (int i = 0; i < 24; i++) {
            Check.due("27: rising", four.ways(4, i) > before, true);
            before = four.ways(4, i);
        }
    }

    // "the PLACE for which yes and no are least apart in number among these (of several the lowest)"; "NONE: nothing fits"
    private static void askOfSeveral() {
        FreeAlderman x = Check.city("px9y9;px1;px2;px3");
        // Of one place by t: 1 from 1 on, 2 from 2 on, 3 from 3 on: a yes is nearer to even than none.
        Check.due("28: by 0 none has a yes: the lowest", x.ask(1, 0), 0);
        Check.due("28: by 1 the second alone", x.ask(1, 1), 1);
        Check.due("28: by 17 the first has none", x.ask(1, 17), 1);
        Check.due("28: by 18 all alike: the lowest", x.ask(1, 18), 0);
        // Of two places by 3: 1 in 10, 12, 13; 2 in 20, 21, 23; 3 in 30, 31, 32; and 2 in 12 by 1 + 1 + 1.
        Check.due("28: of two by 3", x.ask(2, 3), 2);
        // By 2: 1 in 10, 12, 13; 2 in 20, 21, 23; 3 in none: the lower of the two.
        Check.due("28: of two by 2", x.ask(2, 2), 1);
        x.noted(1, 1, true);
        Check.due("28: always so is farthest from even", x.ask(1, 1), 0);
        x.noted(1, 1, false);
        Check.due("28: nothing fits", x.ask(1, 1), NONE);
        Check.due("29: nothing fits", x.always(1), NONE);
        Check.due("27: nothing fits", x.ways(1, NONE), 0);
    }

    // "PLACES (bits) in all of these"
    private static void alwaysInAll() {
        FreeAlderman x = Check.city(SEVEN);
        for (int k = 1; k <= 4; k++) {
            Check.due("29: nothing put, " + k, x.always(k), 0);
        }
        x.noted(6, 60, true);
        for (int k = 1; k <= 4; k++) {
            Check.due("29: the last, " + k, x.always(k), 64);
        }
        x.noted(0, 60, true);
        Check.due("29: two of one do not fit", x.always(1), NONE);
        Check.due("29: two of two", x.always(2), 65);
        Check.due("29: all of four", Check.city("p;px1;px2;px3").always(4), 15);
        Check.due("29: all of two", Check.city("p;px1").always(2), 3);
    }

    // "to all PLACES in the order of their KIND (of several by numbers), STEPS, and 2 HOURS at each"
    private static void roundByKinds() {
        FreeAlderman x = Check.city("sb1h1;px9y9k3;pk3;px9k2;py9k1;px1y1k0;px2y1k0");
        // 4 by 2, 5 by 4 + 1, 3 by 7 + 10, 2 by 19 + 18, 0 by 39 + 9, 1 by 50 + 18.
        int[] want = {48, 68, 37, 17, 2, 5};
        for (int place = 0; place < 6; place++) {
            Check.due("30: " + place, x.round(place), want[place]);
        }
        x.walk(1);
        Check.due("30: wherever he is", x.round(4), 2);
        FreeAlderman home = Check.city("px1;p");
        Check.due("30: by numbers, though the other is nearer", home.round(0), 1);
        Check.due("30: then home's place", home.round(1), 4);
    }

    // "PLACES told as a row (digits from the highest; 1 .. 7 unlike ones ..)"; "(n how many digits the row has)"; "no such row"
    private static void rowsAtTheirBounds() {
        FreeAlderman x = Check.city("sb60h60;p;px1;px2;px3;px4;px5;px6");
        int[][] good = {{0, 1}, {6, 1}, {1, 2}, {10, 2}, {65, 2}, {12, 3}, {123, 4}, {123456, 7}, {6543210, 7}, {1023456, 7}};
        for (int[] row : good) {
            Check.due("34: row " + row[0] + " of " + row[1], x.odds(row[0], row[1], 0), 1000000000);
            Check.due("31: row " + row[0] + " of " + row[1], x.meets(row[0], row[1]) >= NONE, true);
        }
        int[][] bad = {{0, 0}, {0, 2}, {0, 7}, {0, 8}, {7, 1}, {8, 1}, {9, 1}, {10, 1}, {65, 1}, {11, 2}, {100, 3}, {17, 2}, {71, 2}, {12, 4},
            {123, 2}, {123456, 5}, {1234567, 7}, {12345670, 8}, {1023456, 6}, {10234561, 7}, {11023456, 7}, {123456, 8}, {-1, 1}, {-10, 2},
            {1, -1}, {1, 0}, {Integer.MIN_VALUE, 7}, {Integer.MAX_VALUE, 7}, {1, Integer.MAX_VALUE}, {1, Integer.MIN_VALUE}, {Integer.MIN_VALUE, 1}};
        for (int[] row : bad) {
            Check.due("34: no row " + row[0] + " of " + row[1], x.odds(row[0], row[1], 0), NONE);
            Check.due("31: no row " + row[0] + " of " + row[1], x.meets(row[0], row[1]), NONE);
        }
        FreeAlderman two = Check.city("p;px1");
        Check.due("34: 01", two.odds(1, 2, 0), 1000000000);
        Check.due("34: 012 of two places", two.odds(12, 3, 0), NONE);
        Check.due("34: 2 of two places", two.odds(2, 1, 0), NONE);
        Check.due("31: 2 of two places", two.meets(2, 1), NONE);
    }

    // "the PLACE where both are at one HOUR first ..: he from when he comes one HOUR, the other one 2"; "as far as it can be"
    private static void meetsForTwoHours() {
        // The second one is in place 1 (kind 0) by hours 3 and 4. He first reads on ledges till his hour fits.
        for (int rests = 0; rests <= 4; rests++) {
            FreeAlderman x = Check.city("px2k1;px3");
            x.walk(0);
            // Hour 3 as he sets out: place 1 by 4. Each rest is an hour: by 5 the other one is gone.
            for (int i = 0; i < rests; i++) {
                x.ledge();
            }
            int comes = x.count(6) + 1;
            Check.due("31: he comes by " + comes, x.meets(1, 1), comes >= 3 && comes <= 4 ? 1 : NONE);
        }
        FreeAlderman early = Check.city("px1k1;px3;px2k2");
        // 1 by 3, 4; 0 by 5 + 2 = 7, 8; 2 by 9 + 1 = 10, 11.
        Check.due("31: by 3 together", early.meets(1, 1), 1);
        Check.due("31: 0 by 1 and 1 by 2 + 2", early.meets(1, 2), 1);
        Check.due("31: 2 by 2 is too early, 0 by 4, too", early.meets(20, 2), NONE);
        Check.due("31: 2 by 2, 1 by 4", early.meets(21, 2), 1);
        Check.due("31: 0 by 1, 2 by 3, 1 by 5: an hour late", early.meets(21, 3), NONE);
        Check.due("31: the first of two where they meet", Check.city("p;px2").meets(1, 2), 0);
        // 0 by 0, 1; 1 by 2 + 2 = 4, 5. He comes to 1 by 2.
        Check.due("31: too early", Check.city("p;px2").meets(1, 1), NONE);
        FreeAlderman far = Check.city("sb2;px1;px4k1;px2k3");
        Check.due("31: where he can't come they do not meet", Check.city("sb2;px3;px1k1").meets(0, 1), NONE);
        Check.due("31: what can be ahead of it counts", far.meets(1, 2), 0);
        // 0 by 1; then 1 is too far, and what stands behind it is not gone to.
        Check.due("31: as far as it can be", Check.city("sb3;px4k3;px3").meets(1, 2), NONE);
        Check.due("31: alone it can be", Check.city("sb3;px4k3;px3").meets(1, 1), 1);
    }

    // "x, y (0 .. 3) how much more each has to be SEEN"; "HIDDEN: no such ones, alike, out of bounds."
    private static void gameAtItsBounds() {
        FreeAlderman x = Check.city("sc1;pv5;px1v5;px2v8");
        for (int more = -1; more <= 4; more++) {
            boolean good = more >= 0 && more <= 3;
            Check.due("32: x " + more, x.game(0, 1, more, 0, 0), good ? 8 - 3 - more : HIDDEN);
            Check.due("32: y " + more, x.game(1, 0, 0, more, 1), good ? 8 - 3 - more : HIDDEN);
            Check.due("32: x in vain " + more, x.game(0, 2, more, 1, 0), good ? -more : HIDDEN);
            Check.due("32: y in vain " + more, x.game(2, 0, 1, more, 1), good ? -more : HIDDEN);
        }
        for (int far : FAR) {
            Check.due("32: x " + far, x.game(0, 1, far, 0, 0), HIDDEN);
            Check.due("32: y " + far, x.game(0, 1, 0, far, 0), HIDDEN);
            Check.due("32: what " + far, x.game(0, 1, 0, 0, far), HIDDEN);
        }
        Check.due("32: what -1", x.game(0, 1, 0, 0, -1), HIDDEN);
        Check.due("32: what 2", x.game(0, 1, 0, 0, 2), HIDDEN);
        for (int place = 0; place < 3; place++) {
            Check.due("32: alike", x.game(place, place, 0, 0, 0), HIDDEN);
            Check.due("33: alike", x.rests(place, place, NONE), NONE);
            Check.due("33: alike", x.rests(place, place, 0), NONE);
        }
        Check.hold(x, "y:30");
        Check.due("32: the least that one can have", x.game(0, 1, 3, 0, 0), 8 - 30 - 3);
        Check.hold(x, "y:0");
        Check.due("32: the most that one can have", x.game(0, 1, 0, 0, 0), 8);
        Check.hold(x, "y:v");
        Check.due("32: v with three more", x.game(2, 0, 3, 0, 0), 8 - 11 - 3);
    }

    // "he comes to the one with more to be SEEN then (of both alike to the nearer from where he is, then to the lower number)"
    private static void gameOfBothAlike() {
        FreeAlderman x = Check.city("sc0;px3v5;px1v4;px2y1v4;py3v4");
        Check.due("32: one more is more", x.game(0, 1, 0, 0, 0), 4);
        Check.due("32: alike: the nearer", x.game(0, 1, 0, 1, 0), 0);
        Check.due("32: alike: the nearer", x.game(0, 1, 0, 1, 1), 8 - 4 - 1);
        Check.due("32: as near: the lower number", x.game(2, 3, 0, 0, 0), 4);
        Check.due("32: as near: the lower number, told the other way", x.game(3, 2, 0, 0, 0), 0);
        Check.due("32: as near and alike by showing more", x.game(0, 3, 0, 1, 0), 4);
        x.walk(3);
        Check.due("32: nearer from where he is", x.game(0, 3, 0, 1, 1), 8 - 6 - 1);
        x.day();
        Check.due("32: from home again", x.game(0, 3, 0, 1, 0), 4);
    }

    // "10 times x and y by which neither has more by another of its own: how many, the i-th (rising)"
    private static void restsAtTheirBounds() {
        // Nothing to be had and nothing to be lost: he comes always to the second, whose trouble gets less by what it shows.
        FreeAlderman even = Check.city("px1v0;px2v9");
        Check.hold(even, "y:12-v");
        Check.due("33: how many", even.rests(0, 1, NONE), 4);
        Check.due("33: the last", even.rests(0, 1, 3), 3);
        for (int i : new int[] {4, 5, -2, Integer.MIN_VALUE, Integer.MAX_VALUE}) {
            Check.due("33: rests(0, 1, " + i + ")", even.rests(0, 1, i), NONE);
        }
        // To show one more wins two and costs one: the second does not rest at 0. "has more" is strict.
        FreeAlderman gain = Check.city("px1v0;px2v9");
        Check.hold(gain, "y:30-2*v");
        Check.due("33: one", gain.rests(0, 1, NONE), 1);
        Check.due("33: all that can be shown", gain.rests(0, 1, 0), 3);
        Check.due("33: told the other way", gain.rests(1, 0, 0), 30);
        // As far apart as can be: 3 can't make it up, 4 less one can.
        FreeAlderman close = Check.city("sc4;px1v0;px2v3");
        Check.due("33: drawn by showing three, being nearer: no rest", close.rests(0, 1, NONE), 0);
        FreeAlderman apart = Check.city("sc4;px1v0;px2v4");
        Check.due("33: never drawn: a rest", apart.rests(0, 1, NONE), 1);
        Check.due("33: 00", apart.rests(0, 1, 0), 0);
        Check.due("33: the first of none", close.rests(0, 1, 0), NONE);
    }

    // "a chance (0 .. 100)"; "an HOUR more (not TIRED by it)"
    private static void oddsAtTheirBounds() {
        for (int chance = -1; chance <= 101; chance++) {
            boolean good = chance >= 0 && chance <= 100;
            FreeAlderman x = Check.city("sb9h10;px9;px8");
            Check.due("34: no rain may be, chance " + chance, x.odds(0, 1, chance), good ? 10000000 * (100 - chance) : NONE);
            FreeAlderman y = Check.city("sb9h11;px9;px8");
            Check.due("34: one rain may be, chance " + chance, y.odds(0, 1, chance), good ? 1000000000 : NONE);
            FreeAlderman z = Check.city("sb9h9;px9;px8");
            Check.due("34: it can't be, chance " + chance, z.odds(0, 1, chance), good ? 0 : NONE);
            FreeAlderman tired = Check.city("sb8h60;px9;px8");
            Check.due("34: beyond breath, chance " + chance, tired.odds(0, 1, chance), good ? 0 : NONE);
        }
        FreeAlderman x = Check.city("sb9;px9;px8");
        for (int far : FAR) {
            Check.due("34: chance " + far, x.odds(0, 1, far), NONE);
        }
        // Two ways that take all his breath, or one more than that: rain does not change it.
        for (int chance = 0; chance <= 100; chance += 50) {
            Check.due("34: to the last breath", Check.city("sb4h60;px2;px4").odds(1, 2, chance), 1000000000);
            Check.due("34: beyond his breath", Check.city("sb3h60;px2;px4").odds(1, 2, chance), 0);
            Check.due("34: there and back", Check.city("sb5h60;px4;px2").odds(1, 2, chance), 0);
        }
        // Seven rains and just the hours for them, and one hour less.
        Check.due("34: seven rains", Check.city("sb60h20;" + SEVEN).odds(123456, 7, 100), 1000000000);
        Check.due("34: seven rains, an hour less", Check.city("sb60h19;" + SEVEN).odds(123456, 7, 100), 0);
        // 50 of 100 seven times: 10 to the 9 by 128, cut each time towards no rain.
        long wet = 1000000000L;
        for (int i = 0; i < 7; i++) {
            wet /= 2;
        }
        Check.due("34: all but seven rains", Check.city("sb60h19;" + SEVEN).odds(123456, 7, 50), 1000000000L - wet);
    }

    // "(of the part that has come so far chance 100ths, cut, have RAIN)"
    private static void oddsAreCut() {
        // Five ways, no rain may be: what is dry is what is left of it each time.
        for (int chance : new int[] {1, 3, 33, 50, 67, 99}) {
            long dry = 1000000000L;
            for (int i = 0; i < 7; i++) {
                dry -= dry * chance / 100;
            }
            Check.due("34: seven dry ways, chance " + chance, Check.city("sb60h13;" + SEVEN).odds(123456, 7, chance), dry);
        }
    }

    // "COST of a SECRET of a PLACE: STEPS there from where he is and back HOME."; "NONE: no CITY, no such KIND."
    private static void costAndKinds() {
        FreeAlderman x = Check.city("pk0;px9y9k3;px1k2;px2k2");
        Check.due("35: at home", x.cost(0), 0);
        Check.due("35: the farthest", x.cost(1), 36);
        x.walk(1);
        Check.due("35: where he is", x.cost(1), 18);
        Check.due("35: home's place", x.cost(0), 18);
        int[] want = {1, 0, 12, 2};
        for (int kind = 0; kind < 4; kind++) {
            Check.due("37: " + kind, x.kinds(kind), want[kind]);
        }
        for (int kind : new int[] {-1, 4, Integer.MIN_VALUE, Integer.MAX_VALUE}) {
            Check.due("37: kinds(" + kind + ")", x.kinds(kind), NONE);
        }
        Check.due("37: all of one kind", Check.city(SEVEN).kinds(0), 127);
    }

    // "(of several the lowest, all)"; "(another one; of several the lowest)"; "the most STEPS between two PLACES"
    private static void allOfSeveral() {
        FreeAlderman x = Check.city("px1;py1;px9y9o7v4;px9y8o7v4;px8y9o7v4");
        int[] want = {0, 0, 2, 0, 2, 2, 0, 31, 30, 17};
        for (int what = 0; what < want.length; what++) {
            Check.due("36: all(" + what + ")", x.all(what), want[what]);
        }
        for (int what : new int[] {-1, 10, 11, Integer.MIN_VALUE, Integer.MAX_VALUE}) {
            Check.due("36: all(" + what + ")", x.all(what), NONE);
        }
        x.walk(0);
        Check.due("36: nearest is another one", x.all(6), 1);
        Check.due("36: busiest", x.all(3), 0);
        x.walk(1);
        Check.due("36: busiest, the lowest", x.all(3), 0);
        Check.due("36: nearest", x.all(6), 0);
        x.patience(0, 9);
        Check.due("36: corner: 9 less 2 is as much as 7, the lowest", x.all(2), 0);
        x.patience(0, 8);
        Check.due("36: corner: 8 less 2 is less", x.all(2), 2);
        x.patience(4, 8);
        Check.due("36: corner: the last", x.all(2), 4);
        FreeAlderman two = Check.city("p;px1");
        Check.due("36: nearest from home is the place that lies there", two.all(6), 0);
        two.walk(0);
        Check.due("36: and then the other", two.all(6), 1);
        Check.due("36: spread of two", two.all(9), 1);
        Check.due("36: the widest spread", Check.city("p;px9y9").all(9), 18);
        FreeAlderman much = Check.city("sc0;po0;px1o0");
        much.walk(0);
        Check.due("36: corner: less than none is left", much.all(2), 1);
        much.walk(1);
        Check.due("36: corner: of both less than none, the lowest", much.all(2), 0);
        Check.due("36: breath left", much.all(8), 29);
        FreeAlderman seven = Check.city("sb60h60;" + SEVEN);
        Check.due("36: reach of all", seven.all(7), 127);
        for (int place = 0; place < 7; place++) {
            seven.walk(place);
            Check.due("36: knows", seven.all(0), (2 << place) - 1);
            Check.due("36: reach without where he is", seven.all(7), 127 & ~(1 << place));
        }
    }

    // "in how many DAYS (0 .. 60) it is no longer TOOMUCH"; "NONE: not within 60"
    private static void calmUpToSixty() {
        FreeAlderman x = Check.city("sc1b60h60;px1o0;px2o0");
        Check.hold(x, "y:30");
        x.walk(0);
        x.walk(1);
        x.walk(0);
        int[][] want = {{0, 60}, {1, 59}, {2, 58}, {30, 30}};
        for (int[] w : want) {
            x.patience(0, w[0]);
            Check.due("38: 60 with patience " + w[0], x.calm(0), w[1]);
        }
        x.patience(0, 0);
        x.law(NONE);
        x.walk(1);
        x.walk(0);
        // 4 and twice 2 less 1: 67 now.
        Check.due("7: 67", Check.spot(x, 0, 5), 67);
        for (int patience = 5; patience <= 9; patience++) {
            x.patience(0, patience);
            Check.due("38: 67 with patience " + patience, x.calm(0), patience >= 7 ? 67 - patience : NONE);
        }
        FreeAlderman nine = Check.city("sc9;px1o2;px2");
        Check.hold(nine, "y:11");
        Check.due("38: calm now", nine.calm(0), 0);
        nine.walk(0);
        Check.due("38: 11 less 9 is 2", nine.calm(0), 1);
        nine.patience(0, 1);
        Check.due("38: one more is wanted", nine.calm(0), 2);
        nine.patience(0, 11);
        Check.due("38: as much as patience is calm", nine.calm(0), 0);
        nine.patience(0, 10);
        Check.due("38: one above is not", nine.calm(0), 1);
    }

    // "HIDDEN for others."
    private static void countsOfOthers() {
        FreeAlderman x = Check.city("p;px1");
        FreeAlderman none = new FreeAlderman();
        for (int what : new int[] {-1, 15, 16, Integer.MIN_VALUE, Integer.MAX_VALUE}) {
            Check.due("41: count(" + what + ")", x.count(what), HIDDEN);
            Check.due("41: count(" + what + ")", none.count(what), HIDDEN);
        }
        Check.due("41: count(14)", x.count(14), 0);
        Check.due("41: constants", FreeAlderman.NONE, -1);
        Check.due("41: constants", FreeAlderman.HIDDEN, -1000000);
    }
}
