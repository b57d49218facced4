/** Promises 11 to 18, 20, 21, 39 and 40: the ACTS, YEARS, UNDO, LOG, RUN, DO, images. */
public final class ActsTest {
    public static void main(String[] args) {
        walks();
        walksByLaw();
        ledges();
        secretsBack();
        patience();
        daysAndLog();
        lastDay();
        years();
        undo();
        undoLongLog();
        runAndPerform();
        images();
        refusalsChangeNothing();
        Check.close();
    }

    private static void walks() {
        FreeAlderman x = Check.city("sb10h14c1;p;px3v5;px3y4v9;px9");
        Check.due("11: -1", x.walk(-1), Check.NONE);
        Check.due("11: no such place", x.walk(4), Check.NONE);
        Check.due("11: home is not the place that lies there", x.walk(0), 3);
        Check.due("11: it takes an hour", x.count(6), 1);
        Check.due("11: he is there", x.walk(0), Check.NONE);
        Check.due("11: on", x.walk(1), 3);
        Check.due("11: hour", x.count(6), 5);
        Check.due("11: tired", x.count(7), 3);
        Check.due("11: where", x.count(8), 1);
        Check.due("11: seen", x.count(9), 8);
        Check.due("11: back", x.walk(0), 5);
        Check.due("11: seen once a day", x.count(9), 8);
        Check.due("11: troubles come together", Check.spot(x, 0, 5), 8);
        Check.due("11: twice there today", Check.spot(x, 0, 6), 2);
        Check.due("11: beyond his breath", x.walk(2), Check.NONE);
        Check.due("11: just his breath, within hours", x.walk(1), 5);
        Check.due("11: beyond hours", x.walk(2), Check.NONE);
        Check.due("11: secrets", x.all(0), 3);
        x.day();
        Check.due("11: a place at hour 10 with 9 steps", x.walk(3), 3);
        Check.due("11: seen that day", x.count(9), 3);
        Check.due("11: seen in all", x.count(10), 11);
        FreeAlderman y = Check.city("sb3h4;px3;px4");
        Check.due("11: breath and hours to the last", y.walk(0), 2);
        Check.due("11: hours all gone", y.walk(1), Check.NONE);
        FreeAlderman z = Check.city("sb3h5;px3;px4");
        Check.due("11: breath is short", z.walk(1), Check.NONE);
        FreeAlderman busy = Check.city("sb60h60c0;p;px1");
        int last = 0;
        for (int i = 0; i < 30; i++) {
            last = busy.walk(i % 2);
        }
        Check.due("11: trouble is 30 at most", last, 30);
        Check.due("11: hour 60 could not be passed", busy.walk(0), Check.NONE);
        FreeAlderman kind = Check.city("sc9;p;px1");
        Check.due("11: trouble is 0 at least", kind.walk(1), 0);
    }

    private static int worth(String law) {
        FreeAlderman x = Check.city("sc3b40h40;px1y1k2v7o20;px4y1k3v5o9");
        Check.hold(x, law);
        x.walk(0);
        x.ledge();
        x.walk(1);
        x.walk(0);
        return x.walk(1);
    }

    private static void walksByLaw() {
        Check.due("11: k", worth("y:k"), 3);
        Check.due("11: v", worth("y:v"), 5);
        Check.due("11: o", worth("y:o"), 9);
        Check.due("11: h as he comes, ahead of the hour there", worth("y:h"), 2 + 1 + 1 + 3 + 1 + 3 + 1 + 3);
        Check.due("11: n ahead of this", worth("y:n"), 1);
        Check.due("11: t as he comes", worth("y:t"), 9);
        Check.due("8: held within 30", worth("y:31"), 30);
        Check.due("8: held within 0", worth("y:k-v"), 0);
        Check.due("8: from the left", worth("y:20-5-3"), 12);
        Check.due("8: times first", worth("y:1+2*3"), 7);
        Check.due("8: brackets", worth("y:[1+2]*3"), 9);
        Check.due("8: cut", worth("y:7/2"), 3);
        Check.due("8: cut towards 0", worth("y:9+[0-7]/2"), 6);
        Check.due("8: by 0", worth("y:5+7/[k-3]"), 5);
        Check.due("8: behind each sign within a million", worth("y:9999*9999-9999*100-93"), 7);
        Check.due("8: and within minus a million", worth("y:0-9999*9999+9999*99+9999+93"), 0);
        Check.due("8: minus a million", worth("y:[[0-9999]*9999+9999*100]/100+8"), 7);
        Check.due("8: the first that holds", worth("y:k=2?1;y:k=3?2;y:k=3?3;y:4"), 2);
        Check.due("8: none holds", worth("y:k=2?1;y:k<3?2"), 0);
        Check.due("8: the one without a condition", worth("y:k>3?1;y:4;y:k=3?5"), 4);
        Check.due("8: and ahead of or", worth("y:k=3|k=3&k=1?1;y:2"), 1);
        Check.due("8: or behind and", worth("y:k=1&k=3|k=3?1;y:2"), 1);
        Check.due("8: round brackets", worth("y:(k=3|k=3)&k=1?1;y:2"), 2);
        Check.due("8: not", worth("y:!k=3?1;y:2"), 2);
        Check.due("8: not not", worth("y:!!k=3?1;y:2"), 1);
        Check.due("8: not is of one unit", worth("y:!k=1|k=3?1;y:2"), 1);
        Check.due("8: not of brackets", worth("y:!(k=1|k=3)?1;y:2"), 2);
        Check.due("8: less", worth("y:k<3?1;y:k<4?2"), 2);
        Check.due("8: more", worth("y:k>3?1;y:k>2?2"), 2);
        Check.due("8: sums in conditions", worth("y:k+1=v-1&2*k>v?6"), 6);
        Check.due("8: blanks", worth(" y : k = 3 ? [ 1 + 1 ] "), 2);
        FreeAlderman x = Check.city("p;px1o9");
        Check.hold(x, "y:o");
        x.patience(1, 12);
        Check.due("8: o is patience now", x.walk(1), 12);
        x.law(Check.NONE);
        x.day();
        Check.due("8: none holds", x.walk(1), 2);
    }

    private static void ledges() {
        FreeAlderman x = Check.city("sh14;px5;py5");
        Check.due("12: not tired", x.ledge(), Check.NONE);
        x.walk(0);
        Check.due("12: three less", x.ledge(), 2);
        Check.due("12: an hour", x.count(6), 7);
        Check.due("12: 0 at least", x.ledge(), 0);
        Check.due("12: not tired", x.ledge(), Check.NONE);
        Check.due("12: hour 8", x.count(6), 8);
        FreeAlderman one = Check.city("px1;px2");
        one.walk(0);
        Check.due("12: tired by one", one.ledge(), 0);
        Check.due("12: where he is", x.count(8), 0);
        FreeAlderman y = Check.city("sh7;px5;py5");
        y.walk(0);
        Check.due("12: the last hour", y.ledge(), 2);
        Check.due("12: beyond hours", y.ledge(), Check.NONE);
        Check.due("12: no city", new FreeAlderman().ledge(), Check.NONE);
    }

    private static void secretsBack() {
        FreeAlderman x = Check.city("sc0;p;px1;px2");
        Check.hold(x, "y:7");
        Check.due("13: he does not know it", x.restore(0), Check.NONE);
        x.walk(0);
        x.walk(1);
        Check.due("13: half, cut", x.restore(0), 3);
        Check.due("13: he knows the other", x.all(0), 2);
        Check.due("13: no more", x.restore(0), Check.NONE);
        x.day();
        Check.due("13: on another day", x.restore(1), 3);
        Check.due("13: knows none", x.all(0), 0);
        Check.due("13: -1", x.restore(-1), Check.NONE);
        Check.due("13: no such place", x.restore(3), Check.NONE);
        x.walk(0);
        Check.due("13: he learns it again", x.restore(0), 5);
        Check.due("13: was there today all the same", Check.spot(x, 0, 6), 1);
    }

    private static void patience() {
        FreeAlderman x = Check.city("p;px1o30");
        Check.due("14: it is so", x.patience(0, 6), Check.NONE);
        Check.due("14: it was", x.patience(0, 0), 6);
        Check.due("14: it was 0", x.patience(0, 30), 0);
        Check.due("14: it is so", x.patience(1, 30), Check.NONE);
        Check.due("14: -1", x.patience(0, -1), Check.NONE);
        Check.due("14: 31", x.patience(0, 31), Check.NONE);
        Check.due("14: no such place", x.patience(2, 5), Check.NONE);
        Check.due("14: no such place", x.patience(-1, 5), Check.NONE);
        Check.due("14: two acts", x.count(14), 2);
    }

    private static void daysAndLog() {
        FreeAlderman x = Check.city("sc2;po1;px1v4o9");
        Check.due("15: no city", new FreeAlderman().day(), Check.NONE);
        x.walk(0);
        x.walk(1);
        x.walk(0);
        Check.due("15: a day", x.day(), 1);
        Check.due("18: hours", x.log(0, 0), 5);
        Check.due("18: seen", x.log(0, 1), 7);
        Check.due("18: too much as it ended", x.log(0, 2), 1);
        Check.due("15: troubles are less", Check.spot(x, 0, 5), 4);
        Check.due("15: 0 at least", Check.spot(x, 1, 5), 0);
        Check.due("15: home", x.count(8), Check.NONE);
        Check.due("15: hour", x.count(6), 0);
        Check.due("15: not tired", x.count(7), 0);
        Check.due("15: seen today", x.count(9), 0);
        Check.due("15: seen in all", x.count(10), 7);
        Check.due("15: secrets stay", x.all(0), 3);
        Check.due("15: an empty day", x.day(), 2);
        Check.due("18: hours of the latest", x.log(0, 0), 0);
        Check.due("18: seen on the latest", x.log(0, 1), 0);
        Check.due("18: still too much", x.log(0, 2), 1);
        Check.due("18: the one ahead", x.log(1, 1), 7);
        Check.due("18: no more of them", x.log(2, 0), Check.NONE);
        Check.due("18: -1", x.log(-1, 0), Check.NONE);
        Check.due("18: no such what", x.log(0, 3), Check.NONE);
        Check.due("18: no such what", x.log(0, -1), Check.NONE);
        Check.due("41: log", x.count(13), 2);
        x.walk(1);
        for (int i = 0; i < 61; i++) {
            x.day();
        }
        Check.due("18: the latest 60", x.count(13), 60);
        Check.due("18: the last of them is empty", x.log(59, 0), 0);
        Check.due("18: no 61st", x.log(60, 0), Check.NONE);
        x.undo();
        Check.due("18: back comes the day that went out", x.log(59, 0), 2);
        Check.due("18: still 60", x.count(13), 60);
    }

    private static FreeAlderman atDay(int day) {
        FreeAlderman x = Check.city("p;px1");
        Check.tell(x, "d;d;d;d;d;d;d;d;d;d;d;d;d;d;d;d", 2);
        for (int i = 0; i < day / 16; i++) {
            x.perform(0);
        }
        for (int i = 0; i < day % 16; i++) {
            x.day();
        }
        Check.due("21: day " + day, x.count(5), day);
        return x;
    }

    private static void lastDay() {
        FreeAlderman x = atDay(990);
        Check.due("20: nine days can be", x.run(0, 0), 9);
        Check.due("21: nine days are done", x.perform(0), 9);
        Check.due("15: day 999", x.count(5), 999);
        Check.due("15: beyond 999", x.day(), Check.NONE);
        Check.due("20: none can be", x.run(0, 0), 0);
        Check.due("21: none is done", x.perform(0), 0);
        Check.due("17: 40 acts", x.count(14), 40);
        x.walk(1);
        x.patience(1, 0);
        Check.due("38: days go on behind 999", x.calm(1), 1);
        x.gout(9);
        int before = x.count(7);
        x.years(5, 0);
        Check.due("16: no day goes by beyond 999", x.count(5), 999);
        Check.due("16: though each is an act", x.count(14), 40);
        for (int i = 0; i < 5; i++) {
            x.undo();
        }
        Check.due("16: undone one by one", x.count(7), before);
        Check.due("39: image on the last day", x.image(), 999);
        Check.due("17: 35 are left", x.undo(), 34);
        Check.due("40: back", x.back(), 999);
    }

    private static void years() {
        FreeAlderman x = Check.city("p;px1;py2");
        Check.due("16: 0", x.years(0, 1), Check.NONE);
        Check.due("16: 61", x.years(61, 1), Check.NONE);
        Check.due("16: -1", x.years(-1, 1), Check.NONE);
        Check.due("16: no city", new FreeAlderman().years(1, 1), Check.NONE);
        // The first draws of seed 0: 1442695040888963407 >>> 33 is 167951807, so 7 of 10; then 1876011003808476466
        // >>> 33 is 218396424, so 0 of 3. So he walks to place 0.
        Check.due("16: one walk", x.years(1, 0), 1);
        Check.due("16: to place 0", x.count(8), 0);
        Check.due("16: one act", x.count(14), 1);
        Check.due("16: the same again can't be, and nothing comes of it", x.years(1, 0), 0);
        Check.due("16: which is an act", x.count(14), 2);
        Check.due("16: hour 1", x.count(6), 1);
        Check.due("16: undone", x.undo(), 1);
        Check.due("16: still hour 1", x.count(6), 1);
        x.walk(2);
        x.walk(0);
        Check.due("16: tired, he reads instead", x.years(1, 0), 0);
        Check.due("16: less tired", x.count(7), 1);
        x.gout(8);
        Check.due("16: below gout a day goes by", x.years(1, 0), 0);
        Check.due("16: day", x.count(5), 1);
        Check.due("18: which the log has", x.log(0, 0), 8);
        x.undo();
        Check.due("17: and lost again", x.count(13), 0);
        x.gout(7);
        Check.due("16: 7 is not below 7", x.years(1, 0), 0);
        Check.due("16: no day", x.count(5), 0);
        Check.due("16: sixty", x.years(60, -1) >= 0, true);
        Check.due("17: forty of them", x.count(14), 40);
    }

    private static void undo() {
        FreeAlderman x = Check.city("sb20;px1;px2v7;py3");
        Check.tell(x, "w1;r;b1;d;w2;w0", 2);
        Check.due("17: none", x.undo(), Check.NONE);
        String[] portraits = new String[20];
        int n = 0;
        portraits[n++] = Check.portrait(x);
        x.walk(1);
        portraits[n++] = Check.portrait(x);
        x.ledge();
        portraits[n++] = Check.portrait(x);
        x.restore(1);
        portraits[n++] = Check.portrait(x);
        x.patience(2, 1);
        portraits[n++] = Check.portrait(x);
        x.day();
        portraits[n++] = Check.portrait(x);
        Check.due("21: six", x.perform(0), 6);
        for (int i = 5; i >= 0; i--) {
            Check.due("17: of perform", x.undo(), 5 + i);
        }
        Check.same("17: all of perform", Check.portrait(x), portraits[5]);
        for (int i = 4; i >= 0; i--) {
            Check.due("17: one by one", x.undo(), i);
            Check.same("17: as it was ahead of act " + i, Check.portrait(x), portraits[i]);
        }
        Check.due("17: none left", x.undo(), Check.NONE);
        for (int i = 0; i < 50; i++) {
            x.patience(0, 10 + i % 2);
        }
        Check.due("17: 40 at most", x.count(14), 40);
        for (int i = 0; i < 40; i++) {
            Check.due("17: down to none", x.undo(), 39 - i);
        }
        Check.due("17: none left", x.undo(), Check.NONE);
        Check.due("17: patience of the tenth act", Check.spot(x, 0, 4), 11);
    }

    private static void undoLongLog() {
        FreeAlderman x = Check.city("sb20;px1;px2v7;py3");
        Check.tell(x, "w1;d;w2;d;w0;d;d;w0;w1;d;w2;w1;d", 2);
        for (int i = 0; i < 15; i++) {
            x.perform(0);
        }
        Check.due("18: sixty", x.count(13), 60);
        String before = Check.portrait(x);
        for (int i = 0; i < 40; i++) {
            x.day();
        }
        for (int i = 0; i < 40; i++) {
            x.undo();
        }
        String behind = Check.portrait(x);
        int acts = before.split(" ").length;
        Check.due("17: as long", behind.split(" ").length, acts);
        Check.same("17: the log as it was", behind.substring(behind.lastIndexOf(" 1 ")), before.substring(before.lastIndexOf(" 1 ")));
        for (int i = 0; i < 60; i++) {
            Check.due("18: row " + i + " is told", x.log(i, 0) >= 0, true);
        }
    }

    private static void runAndPerform() {
        FreeAlderman x = Check.city("sb10h12;px1v4;px2v5;py3v6");
        Check.tell(x, "w0;w1;w0;w2;r;b1;d;w0", 2);
        Check.tell(x, "r", 2);
        Check.tell(x, "w0;b0;b0", 2);
        Check.tell(x, "w0;w3", 2);
        String before = Check.portrait(x);
        Check.due("20: all can be", x.run(0, 0), Check.NONE);
        Check.due("20: seen over days, once each", x.run(0, 1), 4 + 5 + 6 + 4);
        Check.due("20: at once", x.run(1, 0), 0);
        Check.due("20: nothing seen", x.run(1, 1), 0);
        Check.due("20: behind two", x.run(2, 0), 2);
        Check.due("20: a place that is not there", x.run(3, 0), 1);
        Check.due("20: seen up to there", x.run(3, 1), 4);
        Check.due("20: no such days", x.run(4, 0), Check.HIDDEN);
        Check.due("20: no such days", x.run(-1, 0), Check.HIDDEN);
        Check.due("20: no such what", x.run(0, 2), Check.HIDDEN);
        Check.due("20: no such what", x.run(0, -1), Check.HIDDEN);
        Check.same("20: apart", Check.portrait(x), before);
        Check.due("21: no such days", x.perform(4), Check.NONE);
        Check.due("21: no such days", x.perform(-1), Check.NONE);
        Check.due("21: none", x.perform(1), 0);
        Check.due("21: up to there", x.perform(3), 1);
        Check.due("21: one act", x.count(14), 1);
        Check.due("20: from as it is he is there", x.run(0, 0), 0);
        x.undo();
        Check.due("21: all eight", x.perform(0), 8);
        Check.due("21: eight acts", x.count(14), 8);
        Check.due("21: as run told", x.count(10), 19);
        Check.due("21: the log, too", x.count(13), 1);
        Check.due("21: seen that day", x.log(0, 1), 15);
        x.day();
        Check.due("20: what he sees in them alone", x.run(2, 1), 4);
        FreeAlderman none = new FreeAlderman();
        Check.tell(none, "d", 2);
        Check.due("20: no city", none.run(0, 0), Check.HIDDEN);
        Check.due("21: no city", none.perform(0), Check.NONE);
    }

    private static void images() {
        FreeAlderman x = Check.city("sb20;px1;px2v7;py3");
        Check.due("40: no image", x.back(), Check.NONE);
        x.walk(1);
        x.day();
        x.walk(2);
        x.patience(0, 1);
        Check.due("39: the day", x.image(), 1);
        String before = Check.portrait(x);
        x.undo();
        x.undo();
        x.undo();
        x.walk(0);
        x.gout(7);
        x.noted(0, 3, true);
        Check.hold(x, "y:5");
        x.day();
        x.day();
        Check.due("40: the day", x.back(), 1);
        Check.due("40: no act can be undone", x.undo(), Check.NONE);
        Check.due("40: gout is not of it", x.count(11), 7);
        Check.due("40: nor what was put", x.count(12), 1);
        Check.due("40: nor the law", x.count(4), 0);
        Check.due("40: where he is", x.count(8), 2);
        Check.due("40: hour", x.count(6), 4);
        Check.due("40: tired", x.count(7), 3);
        Check.due("40: seen today", x.count(9), 3);
        Check.due("40: seen in all", x.count(10), 10);
        Check.due("40: the log as it was", x.log(0, 1), 7);
        Check.due("40: its length", x.count(13), 1);
        Check.due("40: patience", Check.spot(x, 0, 4), 1);
        Check.due("40: visits", Check.spot(x, 2, 6), 1);
        Check.due("40: troubles", Check.spot(x, 2, 5), 2);
        Check.due("40: secrets", x.all(0), 6);
        x.walk(0);
        Check.due("40: again", x.back(), 1);
        Check.due("40: where he is", x.count(8), 2);
        x.day();
        Check.due("39: instead of the one ahead", x.image(), 2);
        x.walk(0);
        Check.due("40: the later one", x.back(), 2);
        Check.due("40: home", x.count(8), Check.NONE);
        Check.due("39: an image undoes nothing", before.isEmpty(), false);
        x.walk(0);
        x.image();
        Check.due("39: acts can still be undone behind an image", x.undo(), 0);
        Check.due("39: no city", new FreeAlderman().image(), Check.NONE);
    }

    private static void refusalsChangeNothing() {
        FreeAlderman x = Check.city("sb3h9;px1;px9;py3");
        x.walk(0);
        String before = Check.portrait(x);
        x.walk(0);
        x.walk(1);
        x.walk(7);
        x.restore(1);
        x.patience(0, 6);
        x.patience(0, 99);
        x.years(0, 1);
        x.back();
        x.law(3);
        x.gout(2);
        x.text(0);
        x.end(5);
        x.perform(0);
        x.noted(0, 61, true);
        Check.same("what is refused changes nothing", Check.portrait(x), before);
    }
}
