/** Promises 1 to 10 and 19: a new object, the TAPE, FAULTS, texts, RULES, PLACES, LAWS, GOUT, STEPS. */
public final class TextsTest {
    public static void main(String[] args) {
        newObject();
        tape();
        cityFaults();
        daysFaults();
        lawFaults();
        texts();
        cityAnew();
        rulesAndSpots();
        lawsAndGout();
        steps();
        stepsOfDays();
        Check.close();
    }

    private static void newObject() {
        FreeAlderman x = new FreeAlderman();
        int[] want = {0, 0, 0, 0, -1, 0, 0, 0, -1, 0, 0, 2, 0, 0, 0};
        for (int what = 0; what < want.length; what++) {
            Check.due("1: count(" + what + ")", x.count(what), want[what]);
        }
        for (int what = 0; what < 10; what++) {
            Check.due("1: all(" + what + ")", x.all(what), Check.NONE);
        }
        Check.due("1: back()", x.back(), Check.NONE);
        Check.due("1: other objects are apart", Check.city("p;px1").count(0) - new FreeAlderman().count(0), 2);
    }

    private static void tape() {
        FreeAlderman x = new FreeAlderman();
        Check.due("2: nothing", x.feed(0, 0, 0, 0, 0), 0);
        Check.due("2: zeros are left out", x.feed(0x70000000, 0x003b0000, 0x00007000, 0x00000078, 0x00310000), 5);
        Check.due("2: in their order", x.fault(0), Check.NONE);
        Check.due("2: a negative number is four bytes", x.feed(-1, 0, 0, 0, 0), 9);
        Check.due("2: bytes above 127 are bytes", x.fault(0), 5);
        x.end(0);
        for (int i = 1; i <= 11; i++) {
            Check.due("2: twenty more", x.feed(-1, -1, -1, -1, -1), 20 * i);
        }
        Check.due("2: nineteen more", x.feed(-1, -1, -1, -1, 0x01010100), 239);
        Check.due("2: two are too many", x.feed(0, 0, 0, 0, 0x0101), Check.NONE);
        Check.due("2: two in the second", x.feed(0, 0x0101, 0, 0, 0), Check.NONE);
        Check.due("2: two in the third", x.feed(0, 0, 0x0101, 0, 0), Check.NONE);
        Check.due("2: two in the fourth", x.feed(0, 0, 0, 0x0101, 0), Check.NONE);
        Check.due("2: two in two", x.feed(1, 0, 0, 0x01000000, 0), Check.NONE);
        Check.due("2: and change nothing", x.count(3), 239);
        Check.due("2: one fits", x.feed(0, 0, 0, 0, 1), 240);
        Check.due("2: none fits", x.feed(1, 0, 0, 0, 0), Check.NONE);
        Check.due("2: zeros fit", x.feed(0, 0, 0, 0, 0), 240);
        Check.due("3: -1", x.end(-1), false);
        Check.due("3: 241", x.end(241), false);
        Check.due("3: all of it", x.end(240), true);
        Check.due("3: changes nothing", x.count(3), 240);
        Check.due("3: the first ten", x.end(10), true);
        Check.due("3: ten", x.count(3), 10);
        Check.due("3: eleven", x.end(11), false);
        Check.due("3: the smallest", x.end(Integer.MIN_VALUE), false);
        Check.due("3: none", x.end(0), true);
        Check.tape(x, "p;px1;");
        x.end(5);
        Check.due("3: the first five are kept", x.text(0), 2);
    }

    private static void cityFaults() {
        int none = Check.NONE;
        String[] good = {"p;px1", " p ; p y 1 ", "s;p;px1", "p;s;px1", "p;px1;s", "sb1h1c0;p;px1", "sb60h60c9;p;px1", "sc0b01h09;p;px1",
            "px0y0k0v0o0;px9y9k3v9o30", "po05x1;pv09", "p;px1;px2;px3;px4;px5;px6", "p;px1;px2;px3;s;px4;px5;px6", "p x 01 ;p"};
        for (String text : good) {
            Check.fault(text, 0, none);
        }
        Check.fault("", 0, 0);
        Check.fault("   ", 0, 3);
        Check.fault("p  ", 0, 3);
        Check.fault("s;p", 0, 3);
        Check.fault("p;px1;", 0, 6);
        Check.fault("p;px1; ", 0, 7);
        Check.fault(";p;px1", 0, 0);
        Check.fault("p;;px1", 0, 2);
        Check.fault("P;px1", 0, 0);
        Check.fault("s;px1;s;p", 0, 6);
        Check.fault("p;px1;px2;px3;px4;px5;px6;px7", 0, 26);
        Check.fault("p;px1;s;px2;px3;px4;px5;px6;p", 0, 28);
        Check.fault("p;px1;s;px2;px3;px4;px5;px6;s", 0, 28);
        Check.fault("p;px1;s;px2;px3;px4;px5;px6;", 0, 28);
        Check.fault("p;px1;s;px2;px3;px4;px5;px6;  p", 0, 30);
        Check.fault("p;px1;px2;px3;px4;px5;px6; px7", 0, 27);
        Check.fault("p;s; s;px1", 0, 5);
        Check.fault("p; px1 x1", 0, 7);
        Check.fault("px", 0, 2);
        Check.fault("px;p", 0, 2);
        Check.fault("pxx1", 0, 2);
        Check.fault("px1y2x3;p", 0, 5);
        Check.fault("px1;py1x2y1", 0, 9);
        Check.fault("px1 2;p", 0, 4);
        Check.fault("p x 0 1;p", 0, 6);
        Check.fault("px1 y2 3", 0, 7);
        Check.fault("px1y123", 0, 6);
        Check.fault("px999", 0, 4);
        Check.fault("px001", 0, 4);
        Check.fault("px9999", 0, 4);
        Check.fault("px10y", 0, 3);
        Check.fault("px1!", 0, 3);
        Check.fault("sb0;p;px1", 0, 2);
        Check.fault("sb00;p;px1", 0, 3);
        Check.fault("sb000", 0, 4);
        Check.fault("sb61", 0, 3);
        Check.fault("sh0", 0, 2);
        Check.fault("sh61", 0, 3);
        Check.fault("sc10", 0, 3);
        Check.fault("sb1b1", 0, 3);
        Check.fault("sx1", 0, 1);
        Check.fault("sv1", 0, 1);
        Check.fault("pb1", 0, 1);
        Check.fault("ph1", 0, 1);
        Check.fault("pc1", 0, 1);
        Check.fault("px10", 0, 3);
        Check.fault("py10", 0, 3);
        Check.fault("pk4", 0, 2);
        Check.fault("pk40", 0, 3);
        Check.fault("pv10", 0, 3);
        Check.fault("po31", 0, 3);
        Check.fault("p;p", 0, 3);
        Check.fault("px3y4;px4y3;py4x3 ", 0, 18);
        Check.fault("p1", 0, 1);
        Check.fault("p\t;px1", 0, 1);
        Check.fault("p;px1" + (char) 160, 0, 5);
    }

    private static void daysFaults() {
        String sixteen = "d;d;d;d;d;d;d;d;d;d;d;d;d;d;d;d";
        String[] good = {"r", "d", "w0", "b9", " w 7 ; b 3 ; r ; d ", sixteen, sixteen + "  "};
        for (String text : good) {
            Check.fault(text, 2, Check.NONE);
        }
        Check.fault("", 2, 0);
        Check.fault("  ", 2, 2);
        Check.fault("w", 2, 1);
        Check.fault("w ", 2, 2);
        Check.fault("b", 2, 1);
        Check.fault("wr", 2, 1);
        Check.fault("w;r", 2, 1);
        Check.fault("w12", 2, 2);
        Check.fault("w1 2", 2, 3);
        Check.fault("r1", 2, 1);
        Check.fault("d1", 2, 1);
        Check.fault("r;", 2, 2);
        Check.fault(";r", 2, 0);
        Check.fault("r;;r", 2, 2);
        Check.fault("r;x", 2, 2);
        Check.fault(sixteen + ";", 2, 31);
        Check.fault("w  x", 2, 3);
        Check.fault("r;  x", 2, 4);
        Check.fault(sixteen + " ;d", 2, 32);
        Check.fault(sixteen + "d", 2, 31);
        Check.fault(sixteen.substring(0, 30) + ";d", 2, 30);
    }

    private static void lawFaults() {
        String[] good = {"y:1", "y:k", "y:v+o-h*n/t", "y:9999", " y : [ 1 ] ", "y:1;y:2", "y:k=1?2", "y:k<1&v>2|o=3?4;y:5", "y:!k=1?2",
            "y:(k=1)?2", "y:!(k=1|!v>[2+3]*4)&n=0?[[t]]", "y:[[[[[[1]]]]]]", "y:!!!!!!k=1?1", "y:((((((k=1))))))?1", "y:!(!(![1]=1))?1",
            "y:[k]+[v]+[o]+[h]+[n]+[t]+[1]", "y:!k=1&!k=1&!k=1&!k=1&!k=1&!k=1&!k=1?1", "y:0000", "y:k=1?1;y:(k=1)?1;y:1"};
        for (String text : good) {
            Check.fault(text, 1, Check.NONE);
        }
        Check.fault("", 1, 0);
        Check.fault(" ", 1, 1);
        Check.fault("y", 1, 1);
        Check.fault("y:", 1, 2);
        Check.fault("y1", 1, 1);
        Check.fault("x:1", 1, 0);
        Check.fault("y:x", 1, 2);
        Check.fault("y:-1", 1, 2);
        Check.fault("y:1+", 1, 4);
        Check.fault("y:1+-1", 1, 4);
        Check.fault("y:12345", 1, 6);
        Check.fault("y:00001", 1, 6);
        Check.fault("y:1 2", 1, 4);
        Check.fault("y:kv", 1, 3);
        Check.fault("y:1;", 1, 4);
        Check.fault("y:1;1", 1, 4);
        Check.fault("y:1,", 1, 3);
        Check.fault("y:k=1", 1, 5);
        Check.fault("y:k=1;y:1", 1, 5);
        Check.fault("y:k=1=2?1", 1, 5);
        Check.fault("y:k=1?", 1, 6);
        Check.fault("y:k=1?k=1", 1, 7);
        Check.fault("y:k=1?1?1", 1, 7);
        Check.fault("y:k?1", 1, 3);
        Check.fault("y:k&v=1?1", 1, 3);
        Check.fault("y:(k)?1", 1, 4);
        Check.fault("y:(k=1?1", 1, 6);
        Check.fault("y:(k=1))?1", 1, 7);
        Check.fault("y:(k=1)", 1, 7);
        Check.fault("y:(k=1);y:1", 1, 7);
        Check.fault("y:(k=1)=1?1", 1, 7);
        Check.fault("y:(k=1)+1?1", 1, 7);
        Check.fault("y:!k?1", 1, 4);
        Check.fault("y:!1", 1, 4);
        Check.fault("y:[1", 1, 4);
        Check.fault("y:[1)", 1, 4);
        Check.fault("y:[k=1]?1", 1, 4);
        Check.fault("y:[]", 1, 3);
        Check.fault("y:()", 1, 3);
        Check.fault("y:1]", 1, 3);
        Check.fault("y:1)", 1, 3);
        Check.fault("y:k=(1)?1", 1, 4);
        Check.fault("y:k=1&?1", 1, 6);
        Check.fault("y:k=1|1?1", 1, 7);
        Check.fault("y:1+!k=1?1", 1, 4);
        Check.fault("y:[[[[[[[1]]]]]]]", 1, 8);
        Check.fault("y:[[[[[[  [1]]]]]]]", 1, 10);
        Check.fault("y:!!!!!!  !k=1?1", 1, 10);
        Check.fault("y:k=1 ?  =", 1, 9);
        Check.fault("y:!!!!!!!k=1?1", 1, 8);
        Check.fault("y:(((((((k=1)))))))?1", 1, 8);
        Check.fault("y:!(!(!([1]=1)))?1", 1, 8);
        Check.fault("y:!!!!!!k=[1]?1", 1, 10);
        Check.fault("y:1;y:k=1?[[[[[[ [1]]]]]]]", 1, 17);
    }

    private static void texts() {
        FreeAlderman x = new FreeAlderman();
        Check.tape(x, "p;px1");
        Check.due("4: no such sort", x.fault(-1), -2);
        Check.due("4: no such sort", x.fault(3), -2);
        Check.due("4: a city is no law", x.fault(1), 0);
        Check.due("4: a city is no day", x.fault(2), 0);
        Check.due("5: no such sort", x.text(-1), Check.NONE);
        Check.due("5: no such sort", x.text(3), Check.NONE);
        Check.due("5: the tape is as it was", x.count(3), 5);
        Check.due("5: two places", x.text(0), 2);
        Check.due("5: the tape is empty", x.count(3), 0);
        Check.due("5: an empty tape is no city", x.text(0), Check.NONE);
        Check.due("5: the city stays", x.count(0), 2);
        for (int i = 0; i < 4; i++) {
            Check.due("5: law", Check.tell(x, "y:" + i, 1), i);
            Check.due("5: days", Check.tell(x, "w" + i, 2), i);
        }
        Check.due("5: a fifth law", Check.tell(x, "y:4", 1), Check.NONE);
        Check.due("5: the tape stays", x.count(3), 3);
        Check.due("4: a law has no fault though there are four", x.fault(1), Check.NONE);
        Check.due("5: fifth days", Check.tell(x, "w4", 2), Check.NONE);
        Check.due("5: the tape stays", x.count(3), 2);
        Check.due("41: laws", x.count(1), 4);
        Check.due("41: days", x.count(2), 4);
        for (int i = 0; i < 4; i++) {
            Check.due("8: law " + i, x.law(i), true);
            Check.due("22: by law " + i, x.troubles(0), i);
            Check.due("19: days " + i, x.step(i, 0, 1), i);
        }
        Check.due("5: seven places", Check.tell(x, "s;p;px1;px2;px3;px4;px5;px6", 0), 7);
    }

    private static void cityAnew() {
        FreeAlderman x = Check.city("p;px1y1;px2");
        Check.hold(x, "y:7");
        Check.tell(x, "w1", 2);
        x.gout(5);
        x.walk(1);
        x.day();
        x.walk(2);
        x.noted(1, 1, true);
        x.image();
        Check.due("5: another city", Check.tell(x, "px3o9;px4v8", 0), 2);
        int[] want = {2, 1, 1, 0, 0, 0, 0, 0, -1, 0, 0, 5, 0, 0, 0};
        for (int what = 0; what < want.length; what++) {
            Check.due("5: behind another city count(" + what + ")", x.count(what), want[what]);
        }
        Check.due("5: secrets are gone", x.all(0), 0);
        Check.due("5: troubles are gone", Check.spot(x, 1, 5), 0);
        Check.due("5: visits are gone", Check.spot(x, 1, 6), 0);
        Check.due("5: its own patience", Check.spot(x, 0, 4), 9);
        Check.due("40: no image of this city", x.back(), Check.NONE);
        Check.due("17: nothing to be undone", x.undo(), Check.NONE);
        Check.due("5: the law holds", x.troubles(0), 7);
    }

    private static void rulesAndSpots() {
        FreeAlderman x = Check.city("sh50;px1y2;pk3v7o8y9");
        Check.due("6: breath without", x.rule(0), 30);
        Check.due("6: hours", x.rule(1), 50);
        Check.due("6: consideration without", x.rule(2), 2);
        Check.due("6: hours without", Check.city("sb7;p;px1").rule(1), 40);
        Check.due("6: breath", Check.city("sb7;p;px1").rule(0), 7);
        Check.due("6: consideration", Check.city("sc7;p;px1").rule(2), 7);
        Check.due("6: -1", x.rule(-1), Check.NONE);
        Check.due("6: 3", x.rule(3), Check.NONE);
        int[][] want = {{1, 2, 0, 3, 6, 0, 0}, {0, 9, 3, 7, 8, 0, 0}};
        for (int place = 0; place < 2; place++) {
            for (int what = 0; what < 7; what++) {
                Check.due("7: spot(" + place + ", " + what + ")", Check.spot(x, place, what), want[place][what]);
            }
        }
        Check.due("7: what -1", Check.spot(x, 0, -1), Check.HIDDEN);
        Check.due("7: what 7", Check.spot(x, 0, 7), Check.HIDDEN);
        Check.due("7: place -1", Check.spot(x, -1, 0), Check.HIDDEN);
        Check.due("7: place 2", Check.spot(x, 2, 0), Check.HIDDEN);
        Check.due("7: no city", Check.spot(new FreeAlderman(), 0, 0), Check.HIDDEN);
        x.patience(1, 30);
        x.walk(1);
        Check.due("7: patience now", Check.spot(x, 1, 4), 30);
        Check.due("7: troubles", Check.spot(x, 1, 5), 2);
        Check.due("7: how often today", Check.spot(x, 1, 6), 1);
        x.day();
        Check.due("7: patience on another day", Check.spot(x, 1, 4), 30);
        Check.due("7: troubles on another day", Check.spot(x, 1, 5), 0);
        Check.due("7: not today", Check.spot(x, 1, 6), 0);
    }

    private static void lawsAndGout() {
        FreeAlderman x = new FreeAlderman();
        Check.due("8: no law 0", x.law(0), false);
        Check.due("8: none", x.law(-1), true);
        Check.due("8: -2", x.law(-2), false);
        Check.tell(x, "y:1", 1);
        Check.due("8: law 0", x.law(0), true);
        Check.due("8: once more", x.law(0), true);
        Check.due("8: law 1", x.law(1), false);
        Check.due("8: law 0 holds", x.count(4), 0);
        Check.due("8: none", x.law(-1), true);
        Check.due("8: none holds", x.count(4), -1);
        Check.due("9: it is so", x.gout(2), false);
        Check.due("9: -1", x.gout(-1), false);
        Check.due("9: 10", x.gout(10), false);
        Check.due("9: 0", x.gout(0), true);
        Check.due("9: 9", x.gout(9), true);
        Check.due("9: it is so", x.gout(9), false);
        Check.due("9: gout", x.count(11), 9);
    }

    private static void steps() {
        FreeAlderman x = Check.city("px1y2;px9y9;py5");
        Check.due("10: from home", x.steps(-1, 1), 18);
        Check.due("10: between", x.steps(0, 1), 15);
        Check.due("10: and back", x.steps(1, 0), 15);
        Check.due("10: none", x.steps(2, 2), 0);
        Check.due("10: no such first", x.steps(3, 0), Check.NONE);
        Check.due("10: no such first", x.steps(-2, 0), Check.NONE);
        Check.due("10: no such second", x.steps(0, 3), Check.NONE);
        Check.due("10: home is no second", x.steps(-1, -1), Check.NONE);
        x.walk(2);
        Check.due("10: from where he is", x.steps(-1, 0), 4);
        Check.due("10: he is there", x.steps(-1, 2), 0);
        Check.due("10: no city", new FreeAlderman().steps(-1, 0), Check.NONE);
    }

    private static void stepsOfDays() {
        FreeAlderman x = new FreeAlderman();
        Check.due("19: days told without a city", Check.tell(x, "w3;r;b7;d", 2), 0);
        int[][] want = {{0, 3}, {1, -1}, {2, 7}, {3, -1}};
        for (int i = 0; i < 4; i++) {
            Check.due("19: what", x.step(0, i, 0), want[i][0]);
            Check.due("19: digit", x.step(0, i, 1), want[i][1]);
        }
        Check.due("19: no such step", x.step(0, 4, 0), Check.HIDDEN);
        Check.due("19: no such step", x.step(0, -1, 0), Check.HIDDEN);
        Check.due("19: no such what", x.step(0, 0, 2), Check.HIDDEN);
        Check.due("19: no such what", x.step(0, 0, -1), Check.HIDDEN);
        Check.due("19: no such days", x.step(1, 0, 0), Check.HIDDEN);
        Check.due("19: no such days", x.step(-1, 0, 0), Check.HIDDEN);
        Check.tape(x, "r;r");
        x.fault(2);
        Check.due("19: a tape that was only looked at is not told", x.step(1, 0, 0), Check.HIDDEN);
    }
}
