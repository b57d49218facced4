/** Promises 35 to 38 and 41: COST, all that is known of the whole, KINDS, CALM, counts. */
public final class WhatIsTest {
    public static void main(String[] args) {
        cost();
        all();
        bestPlaces();
        kinds();
        calm();
        counts();
        Check.close();
    }

    private static void cost() {
        FreeAlderman x = Check.city("px1y1;px4;py9");
        Check.due("35: from home and back", x.cost(1), 8);
        x.walk(0);
        Check.due("35: from where he is and back home", x.cost(1), 4 + 4);
        Check.due("35: he is there", x.cost(0), 2);
        Check.due("35: no such place", x.cost(3), Check.NONE);
        Check.due("35: -1", x.cost(-1), Check.NONE);
        Check.due("35: no city", new FreeAlderman().cost(0), Check.NONE);
    }

    private static void all() {
        FreeAlderman x = Check.city("sb12h20;px1;px4o1;py9;px9y9");
        Check.due("36: knows nothing", x.all(0), 0);
        Check.due("36: reach", x.all(7), 7);
        Check.due("36: breath", x.all(8), 12);
        Check.due("36: spread", x.all(9), 17);
        x.walk(0);
        x.walk(1);
        Check.due("36: knows", x.all(0), 3);
        Check.due("36: too much", x.all(1), 2);
        Check.due("36: breath left", x.all(8), 8);
        Check.due("36: reach without where he is", x.all(7), 1);
        Check.due("36: nearest", x.all(6), 0);
        x.patience(1, 2);
        Check.due("36: as much as patience is not too much", x.all(1), 0);
        Check.due("36: -1", x.all(-1), Check.NONE);
        Check.due("36: 10", x.all(10), Check.NONE);
        FreeAlderman y = Check.city("sh5;px4;px5");
        Check.due("36: reach by hours", y.all(7), 1);
        Check.due("36: nearest whether it can be or not", Check.city("sb1;px9;px8").all(6), 1);
    }

    private static void bestPlaces() {
        FreeAlderman x = Check.city("px3v4o5;px1v9o9;py1v9o9;px9y9;px1y1o8");
        Check.due("36: corner, the lowest", x.all(2), 1);
        Check.due("36: busiest, all alike", x.all(3), 0);
        Check.due("36: finest, the lowest", x.all(4), 1);
        Check.due("36: farest", x.all(5), 3);
        Check.due("36: nearest, the lowest", x.all(6), 1);
        x.walk(1);
        Check.due("36: corner by what is left", x.all(2), 2);
        Check.due("36: busiest", x.all(3), 1);
        Check.due("36: nearest is another one", x.all(6), 4);
        x.walk(2);
        Check.due("36: corner", x.all(2), 4);
        Check.due("36: busiest, the lowest", x.all(3), 1);
        x.patience(0, 30);
        Check.due("36: corner by patience now", x.all(2), 0);
        FreeAlderman y = Check.city("px2;py2;px1y1");
        Check.due("36: farest, the lowest", y.all(5), 0);
        y.walk(0);
        Check.due("36: nearest", y.all(6), 2);
    }

    private static void kinds() {
        FreeAlderman x = Check.city("px1k3;px2;px3k3;px4k1");
        Check.due("37: 0", x.kinds(0), 2);
        Check.due("37: 1", x.kinds(1), 8);
        Check.due("37: 2", x.kinds(2), 0);
        Check.due("37: 3", x.kinds(3), 5);
        Check.due("37: 4", x.kinds(4), Check.NONE);
        Check.due("37: -1", x.kinds(-1), Check.NONE);
        Check.due("37: no city", new FreeAlderman().kinds(0), Check.NONE);
    }

    private static void calm() {
        FreeAlderman x = Check.city("sc2;px1o3;px2");
        Check.hold(x, "y:9");
        Check.due("38: it is calm", x.calm(0), 0);
        x.walk(0);
        Check.due("38: 9, 7, 5, 3", x.calm(0), 3);
        Check.due("38: the other", x.calm(1), 0);
        x.day();
        Check.due("38: two more", x.calm(0), 2);
        Check.due("38: no such place", x.calm(2), Check.NONE);
        Check.due("38: -1", x.calm(-1), Check.NONE);
        Check.due("38: no city", new FreeAlderman().calm(0), Check.NONE);
        FreeAlderman rude = Check.city("sc0;px1o3;px2");
        Check.due("38: calm without consideration", rude.calm(0), 0);
        rude.walk(0);
        Check.due("38: never calm", rude.calm(0), Check.NONE);
        FreeAlderman slow = Check.city("sc1b60h60;px1o0;px2o0");
        Check.hold(slow, "y:n<2?30;y:n=2?1");
        slow.walk(0);
        slow.walk(1);
        slow.walk(0);
        Check.due("38: in sixty", slow.calm(0), 60);
        Check.due("38: in thirty", slow.calm(1), 30);
        slow.walk(1);
        slow.walk(0);
        Check.due("38: not within sixty", slow.calm(0), Check.NONE);
    }

    private static void counts() {
        FreeAlderman x = Check.city("px1v2;px2v4");
        Check.tell(x, "y:1", 1);
        Check.tell(x, "y:2", 1);
        Check.tell(x, "d", 2);
        x.law(1);
        x.gout(4);
        x.walk(0);
        x.day();
        x.walk(1);
        x.noted(0, 1, true);
        Check.tape(x, "abc");
        int[] want = {2, 2, 1, 3, 1, 1, 3, 2, 1, 4, 6, 4, 1, 1, 3};
        for (int what = 0; what < want.length; what++) {
            Check.due("41: count(" + what + ")", x.count(what), want[what]);
        }
        Check.due("41: -1", x.count(-1), Check.HIDDEN);
        Check.due("41: 15", x.count(15), Check.HIDDEN);
        Check.due("41: constants", FreeAlderman.NONE + FreeAlderman.HIDDEN, -1000001);
    }
}
