/** Promises 22 to 34: what would be if he walked, what was PUT, the second one, GAMES, RAIN. */
public final class WouldBeTest {
    public static void main(String[] args) {
        troubles();
        sees();
        seesNothingNew();
        seesByLaw();
        least();
        manners();
        putsAndWays();
        askAndAlways();
        round();
        meets();
        game();
        gameByLaw();
        rests();
        odds();
        oddsOfLongRows();
        apart();
        Check.close();
    }

    private static void troubles() {
        FreeAlderman x = Check.city("sb3h3c1;px1;px2;px9");
        Check.due("22: as it would be", x.troubles(0), 3);
        Check.due("22: whether it can be or not", x.troubles(2), 3);
        Check.due("22: no such place", x.troubles(3), Check.NONE);
        Check.due("22: -1", x.troubles(-1), Check.NONE);
        x.walk(0);
        Check.due("22: where he is", x.troubles(0), 5);
        Check.hold(x, "y:h*3+t");
        Check.due("22: 0 steps from where he is", x.troubles(0), 7);
        Check.due("22: a step away", x.troubles(1), 11);
        Check.due("22: nothing came of it", Check.spot(x, 1, 5), 0);
        Check.hold(x, "y:v*3+n");
        Check.due("22: by what is seen, and how often he was there", x.troubles(0), 10);
    }

    private static void sees() {
        FreeAlderman x = Check.city("sb30h12;px1v3;px2v5;px3v4;py9v9");
        Check.due("23: row", x.sees(0), 12);
        Check.due("23: how much", x.sees(1), 12);
        Check.due("23: hour", x.sees(2), 6);
        Check.due("23: no such what", x.sees(3), Check.NONE);
        Check.due("23: no such what", x.sees(-1), Check.NONE);
        Check.due("23: no city", new FreeAlderman().sees(0), Check.NONE);
        x.walk(1);
        Check.due("23: from now on, not where he was today", x.sees(0), 2);
        Check.due("23: 7 more by both, but 02 and 20 are 2 long", x.sees(1), 7);
        FreeAlderman y = Check.city("sb30h9;px1v3;px2v5;px3v4;py9v9");
        y.walk(1);
        Check.due("23: within hours both", y.sees(0), 2);
        Check.due("23: hour then", y.sees(2), 8);
        FreeAlderman z = Check.city("px2v0;px1v3;px3v3");
        Check.due("23: nothing to be seen is left out", z.sees(0), 12);
        Check.due("23: of rows alike the least", Check.city("py1v4;px1v4").sees(0), 1);
        FreeAlderman patient = Check.city("sc0;po3v9;px1v1o4");
        Check.due("23: not where it would be too much", patient.sees(0), 1);
        Check.due("23: one", patient.sees(1), 1);
        patient.patience(0, 4);
        Check.due("23: just within patience", patient.sees(0), 1);
        Check.due("23: ten", patient.sees(1), 10);
        patient.walk(0);
        patient.patience(0, 0);
        Check.due("23: too much now is no matter", patient.sees(0), 1);
    }

    private static void seesNothingNew() {
        FreeAlderman x = Check.city("sh5;px9;py9");
        Check.due("23: no place", x.sees(0), Check.NONE);
        Check.due("23: nothing", x.sees(1), 0);
        Check.due("23: the hour now", x.sees(2), 0);
        FreeAlderman y = Check.city("px1v0;px2v0");
        Check.due("23: nothing there to be seen", y.sees(0), Check.NONE);
        FreeAlderman z = Check.city("px1;px2");
        z.walk(0);
        z.walk(1);
        Check.due("23: all seen today", z.sees(0), Check.NONE);
        Check.due("23: the hour now", z.sees(2), 4);
        z.day();
        Check.due("23: another day", z.sees(1), 6);
        FreeAlderman much = Check.city("sc0;po0;px1o0");
        much.walk(0);
        Check.due("23: he was there, the other can't be", much.sees(0), Check.NONE);
        much.day();
        Check.due("23: too much still, so he may come", much.sees(0), 0);
    }

    private static void seesByLaw() {
        // Place 0 is borne only behind hour 5, place 2 was not seen and costs time: the way there goes round.
        FreeAlderman x = Check.city("sh20;px1v9;px2v0");
        Check.hold(x, "y:h<4?30;y:0");
        Check.due("23: neither can be borne so early", x.sees(0), Check.NONE);
        FreeAlderman y = Check.city("sh20;px1v9;px4v0");
        Check.hold(y, "y:h<4?30;y:0");
        Check.due("23: first where there is nothing to be seen", y.sees(0), 10);
        Check.due("23: nine", y.sees(1), 9);
        Check.due("23: hour", y.sees(2), 9);
    }

    private static void least() {
        FreeAlderman x = Check.city("px1;px2;px3;py9");
        Check.due("24: the least row", x.least(7, 0), 12);
        Check.due("24: how much more", x.least(7, 1), 6);
        Check.due("24: one", x.least(4, 0), 2);
        Check.due("24: none told", x.least(0, 0), Check.NONE);
        Check.due("24: a place that is not there", x.least(16, 0), Check.NONE);
        Check.due("24: all and more", x.least(31, 0), Check.NONE);
        Check.due("24: negative", x.least(-1, 0), Check.NONE);
        Check.due("24: no such what", x.least(1, 2), Check.NONE);
        Check.due("24: no such what", x.least(1, -1), Check.NONE);
        Check.due("24: no city", new FreeAlderman().least(1, 0), Check.NONE);
        Check.hold(x, "y:t");
        Check.due("24: by being least tired", x.least(5, 0), 2);
        Check.due("24: 1 and 3", x.least(5, 1), 4);
        x.law(Check.NONE);
        Check.hold(x, "y:20-t");
        Check.due("24: by being most tired", x.least(5, 0), 20);
        Check.due("24: 17 and 15", x.least(5, 1), 32);
        x.walk(2);
        Check.due("24: not to where he is at first", x.least(5, 0), 2);
        Check.due("24: nor to that alone", x.least(4, 0), Check.NONE);
        FreeAlderman y = Check.city("sb6;px1;px4;px5");
        Check.due("24: if it can be", y.least(3, 0), 1);
        Check.due("24: over and back can't be", y.least(6, 0), 12);
        Check.due("24: all", y.least(7, 0), 12);
        FreeAlderman z = Check.city("sb6;px4;py4");
        Check.due("24: there is none", z.least(3, 0), Check.NONE);
        FreeAlderman hours = Check.city("sh6;px1;px3;px4");
        Check.due("24: to the last hour", hours.least(3, 0), 1);
        Check.due("24: an hour more than there is", hours.least(7, 0), Check.NONE);
        Check.due("24: nor so", hours.least(5, 0), 2);
        Check.hold(hours, "y:v+h*4");
        Check.due("24: what is seen and the hour as he comes", hours.least(3, 1), 3 + 4 + 3 + 16);
        Check.due("24: there is none", z.least(3, 1), Check.NONE);
        Check.due("24: too much is no matter", Check.city("po0;px1o0").least(3, 1), 4);
    }

    private static void manners() {
        FreeAlderman x = Check.city("sc1b9;px1o3;px2o1;px9o0");
        Check.due("25: none more", x.manners(1), 0);
        Check.due("25: two more", x.manners(2), 2);
        Check.due("25: for both", x.manners(3), 2);
        Check.due("25: three more", x.manners(4), 3);
        Check.due("25: none told", x.manners(0), Check.NONE);
        Check.due("25: no such set", x.manners(8), Check.NONE);
        Check.due("25: negative", x.manners(-1), Check.NONE);
        Check.due("25: no city", new FreeAlderman().manners(1), Check.NONE);
        x.walk(1);
        Check.due("25: where he is can't be, but it is too much", x.manners(2), Check.NONE);
        x.patience(1, 9);
        Check.due("25: those that can be", x.manners(7), 0);
        x.walk(0);
        x.patience(1, 3);
        Check.due("25: by how often he was there", x.manners(2), 4 + 2 - 1);
        x.walk(1);
        x.walk(0);
        x.patience(0, 30);
        x.patience(1, 8);
        Check.due("25: in all nine", x.manners(2), 4 + 4 - 1);
        Check.hold(x, "y:0");
        Check.due("25: a law holds", x.manners(1), Check.NONE);
        x.law(Check.NONE);
        x.patience(1, 7);
        Check.due("25: too much whatever he does", x.manners(1), Check.NONE);
        FreeAlderman y = Check.city("sc0b60h60;px1o30;px2o30");
        for (int i = 0; i < 6; i++) {
            y.walk(i % 2);
        }
        y.patience(1, 18);
        Check.due("25: ten would be wanted", y.manners(3), Check.NONE);
        FreeAlderman hours = Check.city("sc2h8b9;px1;px3;px5o0");
        Check.due("25: just within hours", hours.manners(7), 2);
        Check.due("25: beyond hours", Check.city("sc2h7b9;px1;px3;px5o0").manners(7), 0);
        Check.due("25: beyond breath", Check.city("sc2h8b4;px1;px3;px5o0").manners(7), 0);
        Check.due("25: one that can't be is passed over", Check.city("sb9;px9y9;px3o1").manners(3), 1);
        y.patience(1, 19);
        Check.due("25: nine are enough", y.manners(3), 9);
    }

    private static void putsAndWays() {
        FreeAlderman x = Check.city("px2y1;px5;py6");
        Check.due("26: no such place", x.noted(3, 1, true), Check.NONE);
        Check.due("26: no such place", x.noted(-1, 1, true), Check.NONE);
        Check.due("26: -1", x.noted(0, -1, true), Check.NONE);
        Check.due("26: 61", x.noted(0, 61, true), Check.NONE);
        Check.due("27: nothing put", x.ways(1, -1), 3);
        Check.due("27: two of three", x.ways(2, -1), 6);
        Check.due("27: three", x.ways(3, -1), 6);
        Check.due("27: the first", x.ways(3, 0), 12);
        Check.due("27: the last", x.ways(3, 5), 210);
        Check.due("27: no such one", x.ways(3, 6), Check.NONE);
        Check.due("27: no such one", x.ways(3, -2), Check.NONE);
        Check.due("27: four of three", x.ways(4, -1), 0);
        Check.due("27: none of them", x.ways(4, 0), Check.NONE);
        Check.due("27: 0", x.ways(0, -1), Check.NONE);
        Check.due("27: 5", x.ways(5, -1), Check.NONE);
        Check.due("27: no city", new FreeAlderman().ways(1, -1), Check.NONE);
        Check.due("26: as he comes", x.noted(1, 5, true), 1);
        Check.due("27: at hour 5", x.ways(1, -1), 1);
        Check.due("26: an hour ahead he had not", x.noted(1, 4, false), 2);
        Check.due("27: still", x.ways(1, 0), 1);
        Check.due("27: with an hour there", x.ways(2, 0), 10);
        // 1 at 5, then 0 at 5 + 1 + 4.
        Check.due("26: 0 by 9 not", x.noted(0, 9, false), 3);
        Check.due("26: 0 by 10", x.noted(0, 10, true), 4);
        Check.due("27: so it is 10", x.ways(2, 0), 10);
        Check.due("27: and none other", x.ways(2, -1), 1);
        Check.due("27: 102", x.ways(3, 0), 102);
        for (int i = 5; i <= 10; i++) {
            Check.due("26: the same again", x.noted(2, 60, i % 2 == 0), i);
        }
        Check.due("26: there are ten", x.noted(2, 60, true), Check.NONE);
        Check.due("41: ten", x.count(12), 10);
        Check.due("27: nothing is and is not so", x.ways(3, -1), 0);
        FreeAlderman y = Check.city("sb1h1;px9y9;px9;py9");
        Check.due("27: breath and hours do not matter", y.ways(3, -1), 6);
        y.noted(0, 60, false);
        Check.due("27: not been by 60 is so, too, if he goes elsewhere", y.ways(2, -1), 2);
        FreeAlderman z = Check.city("p;px1");
        z.walk(1);
        z.noted(1, 0, true);
        Check.due("27: from home, wherever he is", z.ways(1, -1), 0);
        FreeAlderman seven = Check.city("p;px1;px2;px3;px4;px5;px6");
        Check.due("27: 840", seven.ways(4, -1), 840);
        Check.due("27: rising", seven.ways(4, 839), 6543);
        seven.noted(0, 0, true);
        Check.due("27: at hour 0", seven.ways(4, -1), 120);
    }

    private static void askAndAlways() {
        FreeAlderman x = Check.city("px2y1;px5;py6");
        Check.due("28: of one place two no, one yes: the lowest", x.ask(1, 60), 0);
        Check.due("28: by 4 only the first, by 60 all alike", x.ask(1, 4), 0);
        Check.due("28: by 2 none of them", x.ask(1, 2), 0);
        // Of two by 5: 0 in 01 and 02, 1 in 10 and 12, 2 in none. By 8: 1 in 01, too, and 2 in 20 and 21.
        Check.due("28: by 5 the first is as even", x.ask(2, 5), 0);
        Check.due("28: by 8 the second", x.ask(2, 8), 1);
        Check.due("28: by 0", Check.city("px1;p").ask(1, 0), 1);
        Check.due("28: t -1", x.ask(1, -1), Check.NONE);
        Check.due("28: t 61", x.ask(1, 61), Check.NONE);
        Check.due("28: k 0", x.ask(0, 1), Check.NONE);
        Check.due("28: k 5", x.ask(5, 1), Check.NONE);
        Check.due("28: nothing fits four", x.ask(4, 1), Check.NONE);
        Check.due("28: no city", new FreeAlderman().ask(1, 1), Check.NONE);
        Check.due("29: none in all of one", x.always(1), 0);
        Check.due("29: all", x.always(3), 7);
        Check.due("29: k 0", x.always(0), Check.NONE);
        Check.due("29: k 5", x.always(5), Check.NONE);
        Check.due("29: nothing fits four", x.always(4), Check.NONE);
        Check.due("29: no city", new FreeAlderman().always(1), Check.NONE);
        x.noted(2, 60, true);
        Check.due("29: one", x.always(2), 4);
        // Ways of two now: 02, 12, 20, 21. By hour 6: 0 in 02 alone, 1 in 12 alone, 2 in 20 and 21.
        Check.due("28: the evenest", x.ask(2, 6), 2);
        Check.due("28: by 10", x.ask(2, 10), 2);
        // By 13: 0 in 02 and, at 6 + 1 + 7, not in 20; 1 in 12 alone; 2 in three: all two apart. By 14: 0 in 02 and 20.
        Check.due("28: by 13", x.ask(2, 13), 0);
        Check.due("28: by 14", x.ask(2, 14), 0);
    }

    private static void round() {
        FreeAlderman x = Check.city("px2k3;px4k1;py1k1;px9y9");
        Check.due("30: kind 0 first", x.round(3), 18);
        Check.due("30: then kind 1 by number", x.round(1), 18 + 2 + 14);
        Check.due("30: the other of kind 1", x.round(2), 34 + 2 + 5);
        Check.due("30: kind 3 last, whatever hours a day has", x.round(0), 41 + 2 + 3);
        Check.due("30: no such place", x.round(4), Check.NONE);
        Check.due("30: -1", x.round(-1), Check.NONE);
        Check.due("30: no city", new FreeAlderman().round(0), Check.NONE);
        x.walk(2);
        Check.due("30: it does not matter where he is", x.round(3), 18);
    }

    private static void meets() {
        // The second one: 0 at hour 2 and 3, 1 at 2 + 2 + 2 = 6 and 7, 2 at 6 + 2 + 4 = 12 and 13.
        FreeAlderman x = Check.city("px2;px4;px8");
        Check.due("31: at once", x.meets(0, 1), 0);
        Check.due("31: at hour 4 he is not there yet", x.meets(1, 1), Check.NONE);
        Check.due("31: the first of them", x.meets(12, 3), 0);
        // 1 at 4, 0 at 4 + 1 + 2 = 7: gone. 2 at 7 + 1 + 6 = 14: gone.
        Check.due("31: nowhere", x.meets(102, 3), Check.NONE);
        x.walk(0);
        Check.due("31: from now on: 1 at 5", x.meets(1, 1), Check.NONE);
        x.ledge();
        Check.due("31: 1 at 6", x.meets(1, 1), 1);
        Check.due("31: where he is can't be", x.meets(0, 1), Check.NONE);
        Check.due("31: and what stands behind it", x.meets(1, 2), Check.NONE);
        FreeAlderman y = Check.city("px2;px4k3;px8");
        // 0 at 2, 3; 2 at 2 + 2 + 6 = 10, 11; 1 at 10 + 2 + 4 = 16, 17.
        Check.due("31: 2 at 8 is too early", y.meets(2, 1), Check.NONE);
        Check.due("31: 1 at 4, 2 at 9 is too early", y.meets(12, 2), Check.NONE);
        Check.due("31: 0 first", y.meets(2, 2), 0);
        FreeAlderman late = Check.city("px2;px1k1;px3k1");
        // 0 at 2, 3; 1 at 5, 6; 2 at 5 + 2 + 2 = 9, 10.
        Check.due("31: 1 at 1, 0 at 3: his second hour", late.meets(10, 2), 0);
        FreeAlderman far = Check.city("sh5;px1k1;px2k1;px3");
        // 2 at 3, 4. He: 0 at 1, 1 at 3, 2 at 5 which is beyond hours, too.
        Check.due("31: as far as it can be", far.meets(12, 3), Check.NONE);
        Check.due("31: 2 at 3", far.meets(2, 1), 2);
        FreeAlderman tired = Check.city("sb3;px3;px1k1");
        // 0 at 3, 4; 1 at 7, 8.
        Check.due("31: 1 at 1, 0 at 4", tired.meets(10, 2), 0);
        tired.walk(0);
        Check.due("31: not beyond his breath", tired.meets(1, 1), Check.NONE);
        // 1 at 5, 6; 0 at 10, 11. He: 0 at 2, 1 at 3 + 3.
        Check.due("31: his last breath and hour", Check.city("sb5h7;px2k1;px5").meets(1, 2), 1);
        Check.due("31: breath over the whole row", Check.city("sb4h7;px2k1;px5").meets(1, 2), Check.NONE);
        Check.due("31: hours over the whole row", Check.city("sb5h6;px2k1;px5").meets(1, 2), Check.NONE);
        Check.due("31: n 0", x.meets(0, 0), Check.NONE);
        Check.due("31: n 8", x.meets(0, 8), Check.NONE);
        Check.due("31: twice", x.meets(11, 2), Check.NONE);
        Check.due("31: no such place", x.meets(3, 1), Check.NONE);
        Check.due("31: a digit too many", x.meets(10, 1), Check.NONE);
        Check.due("31: negative", x.meets(-1, 1), Check.NONE);
        Check.due("31: no city", new FreeAlderman().meets(0, 1), Check.NONE);
    }

    private static void game() {
        FreeAlderman x = Check.city("sc1;px5v4;px2v4;px8v5");
        Check.due("32: alike, to the nearer: the other has nothing", x.game(0, 1, 0, 0, 0), 0);
        Check.due("32: alike, to the nearer", x.game(0, 1, 0, 0, 1), 8 - 3);
        Check.due("32: told the other way", x.game(1, 0, 0, 0, 0), 5);
        Check.due("32: more to be seen", x.game(0, 1, 1, 0, 0), 8 - 3 - 1);
        Check.due("32: less its own", x.game(0, 1, 1, 3, 0), -1);
        Check.due("32: less its own", x.game(0, 1, 1, 3, 1), 8 - 3 - 3);
        Check.due("32: more without more", x.game(0, 2, 0, 0, 1), 5);
        Check.due("32: alike", x.game(1, 1, 0, 0, 0), Check.HIDDEN);
        Check.due("32: no such place", x.game(3, 0, 0, 0, 0), Check.HIDDEN);
        Check.due("32: no such place", x.game(0, -1, 0, 0, 0), Check.HIDDEN);
        Check.due("32: x 4", x.game(0, 1, 4, 0, 0), Check.HIDDEN);
        Check.due("32: x -1", x.game(0, 1, -1, 0, 0), Check.HIDDEN);
        Check.due("32: y 4", x.game(0, 1, 0, 4, 0), Check.HIDDEN);
        Check.due("32: y -1", x.game(0, 1, 0, -1, 0), Check.HIDDEN);
        Check.due("32: what 2", x.game(0, 1, 0, 0, 2), Check.HIDDEN);
        Check.due("32: what -1", x.game(0, 1, 0, 0, -1), Check.HIDDEN);
        x.walk(0);
        Check.due("32: nearer from where he is, and he was there", x.game(0, 1, 0, 0, 0), 8 - 5);
        FreeAlderman y = Check.city("px1;py1");
        Check.due("32: as near: the lower number", y.game(0, 1, 0, 0, 0), 6);
        Check.due("32: told the other way", y.game(1, 0, 0, 0, 0), 0);
        Check.due("32: told the other way", y.game(1, 0, 0, 0, 1), 6);
    }

    private static void gameByLaw() {
        FreeAlderman x = Check.city("px1v2o9k1;py1v3");
        Check.hold(x, "y:v+t+h+10*n");
        Check.due("32: v with that more", x.game(0, 1, 2, 0, 0), 8 - (4 + 1 + 1) - 2);
        x.walk(1);
        Check.due("32: as he would come from there", x.game(0, 1, 3, 0, 0), 8 - (5 + 3 + 4) - 3);
        Check.due("32: where he is", x.game(0, 1, 0, 0, 1), 8 - (3 + 1 + 2 + 10));
    }

    private static void rests() {
        FreeAlderman x = Check.city("sc4;px1v0;px2v9");
        // He always comes to the second: neither has more by showing more.
        Check.due("33: one", x.rests(0, 1, -1), 1);
        Check.due("33: 00", x.rests(0, 1, 0), 0);
        Check.due("33: no second", x.rests(0, 1, 1), Check.NONE);
        Check.due("33: -2", x.rests(0, 1, -2), Check.NONE);
        Check.due("33: alike", x.rests(0, 0, -1), Check.NONE);
        Check.due("33: no such place", x.rests(0, 2, -1), Check.NONE);
        Check.due("33: no such place", x.rests(-1, 0, -1), Check.NONE);
        FreeAlderman y = Check.city("sc4;px1v1;px2v4");
        // 8 to be had: the nearer first needs 3 more to draw him; the second then would show 1 more, but 3 and 1 lead on.
        int number = y.rests(0, 1, -1);
        int before = -1;
        for (int i = 0; i < number; i++) {
            int rest = y.rests(0, 1, i);
            Check.due("33: rising", rest > before, true);
            before = rest;
        }
        Check.due("33: how many", number, 0);
        // To be chosen costs one, but the nearer can't help it, and the other would lose by more.
        FreeAlderman z = Check.city("px1;px2");
        Check.hold(z, "y:9");
        Check.due("33: each would rather not be chosen", z.rests(0, 1, -1), 1);
        Check.due("33: 00", z.rests(0, 1, 0), 0);
        // He comes to the second, whose trouble gets less by just what it shows more.
        FreeAlderman even = Check.city("px1v0;px2v9");
        Check.hold(even, "y:12-v");
        Check.due("33: four", even.rests(0, 1, -1), 4);
        Check.due("33: told the other way", even.rests(1, 0, -1), 4);
        for (int i = 0; i < 4; i++) {
            Check.due("33: the " + i + "-th", even.rests(0, 1, i), i);
            Check.due("33: the " + i + "-th, told the other way", even.rests(1, 0, i), 10 * i);
        }
        Check.due("33: no fifth", even.rests(1, 0, 4), Check.NONE);
    }

    private static void odds() {
        FreeAlderman x = Check.city("sh12;px3;px6;py9");
        // 0 at 3, hour 4; 1 at 7, hour 8: four hours to spare.
        Check.due("34: whatever rains", x.odds(1, 2, 100), 1000000000);
        Check.due("34: no rain", x.odds(2, 1, 0), 1000000000);
        FreeAlderman y = Check.city("sh9;px3;px6;py9");
        Check.due("34: one rain may be", y.odds(1, 2, 50), 750000000);
        Check.due("34: always rain", y.odds(1, 2, 100), 0);
        Check.due("34: never rain", y.odds(1, 2, 0), 1000000000);
        Check.due("34: seldom rain", y.odds(1, 2, 1), 999900000);
        FreeAlderman z = Check.city("sh8;px3;px6;py9");
        Check.due("34: none may be", z.odds(1, 2, 10), 810000000);
        Check.due("34: too far", z.odds(2, 1, 10), 0);
        FreeAlderman tired = Check.city("sb6;px3;px6;py9");
        Check.due("34: rain does not tire", tired.odds(1, 2, 100), 1000000000);
        Check.due("34: breath does", tired.odds(10, 2, 0), 0);
        z.walk(0);
        Check.due("34: from now", z.odds(1, 1, 30), 700000000);
        Check.due("34: he is there", z.odds(0, 1, 30), 0);
        Check.due("34: chance -1", y.odds(1, 2, -1), Check.NONE);
        Check.due("34: chance 101", y.odds(1, 2, 101), Check.NONE);
        Check.due("34: twice", y.odds(11, 2, 1), Check.NONE);
        Check.due("34: no such place", y.odds(3, 1, 1), Check.NONE);
        Check.due("34: n 0", y.odds(0, 0, 1), Check.NONE);
        Check.due("34: n 8", y.odds(0, 8, 1), Check.NONE);
        Check.due("34: a digit too many", y.odds(12, 1, 1), Check.NONE);
        Check.due("34: negative", y.odds(-10, 2, 1), Check.NONE);
        Check.due("34: no city", new FreeAlderman().odds(0, 1, 1), Check.NONE);
    }

    private static void oddsOfLongRows() {
        // Seven ways of a step each but the first, which is none: hour 13 at the end, so one rain may be.
        FreeAlderman x = Check.city("sh14;p;px1;px2;px3;px4;px5;px6");
        long dry = 1000000000L;
        long sum = 0;
        for (int wetAt = -1; wetAt < 7; wetAt++) {
            long part = dry;
            for (int i = 0; i < 7; i++) {
                long wet = part * 33 / 100;
                part = i == wetAt ? wet : part - wet;
            }
            sum += part;
        }
        Check.due("34: each part is cut for itself", x.odds(123456, 7, 33), sum);
    }

    private static void apart() {
        FreeAlderman x = Check.city("px1;px2;py3;px4y4");
        Check.hold(x, "y:h+n");
        x.walk(0);
        x.noted(1, 7, true);
        String before = Check.portrait(x);
        for (int what = 0; what < 3; what++) {
            x.sees(what);
            x.least(15, what);
        }
        x.manners(7);
        x.ways(3, 1);
        x.ask(2, 9);
        x.always(3);
        x.meets(123, 3);
        x.odds(123, 3, 20);
        x.rests(0, 1, -1);
        x.game(0, 1, 1, 1, 0);
        Check.same("22 to 34: apart", Check.portrait(x), before);
    }
}
