import java.util.NoSuchElementException;

/**
 * An old alderman with the freedom of the city: he goes anywhere, sees, troubles, learns secrets
 * and puts them back. The words of the comments are those of the document (CITY, PLACE, ACT ..).
 */
public final class FreeAlderman {
    /** None; refused. */
    public static final int NONE = -1;
    /** Not told. */
    public static final int HIDDEN = -1000000;

    private static final int MOST_BYTES = 240;
    private static final int MOST_PLACES = 7;
    private static final int MOST_TEXTS = 4;
    private static final int MOST_DAY = 999;
    private static final int MOST_HOUR = 60;
    private static final int MOST_PATIENCE = 30;
    private static final int MOST_CONSIDERATION = 9;
    private static final int KINDS = 4;

    private static final int BREATH = 0;
    private static final int HOURS = 1;
    private static final int CONSIDERATION = 2;

    private static final int SPOT_X = 0;
    private static final int SPOT_Y = 1;
    private static final int SPOT_KIND = 2;
    private static final int SPOT_SEEN = 3;
    private static final int SPOT_PATIENCE = 4;
    private static final int SPOT_TROUBLES = 5;
    private static final int SPOT_VISITS = 6;

    private static final int WALK = 0;
    private static final int READ = 1;
    private static final int PUT_BACK = 2;
    private static final int DAY = 3;

    private static final int ALL_KNOWS = 0;
    private static final int ALL_TOOMUCH = 1;
    private static final int ALL_CORNER = 2;
    private static final int ALL_BUSIEST = 3;
    private static final int ALL_FINEST = 4;
    private static final int ALL_FAREST = 5;
    private static final int ALL_NEAREST = 6;
    private static final int ALL_REACH = 7;
    private static final int ALL_LEFT = 8;
    private static final int ALL_SPREAD = 9;

    private static final int GAME_MOST = 3;

    private final Tape tape;
    private final City city;
    private final City draft;
    private final CityText cityText;
    private final LawBook laws;
    private final DayBook dayBook;
    private final Stand now;
    private final Stand trial;
    private final Acts acts;
    private final Diary diary;
    private final int[] imageCells;
    private final Diary imageDiary;
    private final Ways ways;
    private final Search search;
    private final Route route;
    private boolean hasImage;
    private int gout;

    public FreeAlderman() {
        tape = new Tape();
        city = new City();
        draft = new City();
        cityText = new CityText(tape, draft);
        laws = new LawBook(tape);
        dayBook = new DayBook(tape);
        now = new Stand(city, laws);
        trial = new Stand(city, laws);
        acts = new Acts();
        diary = new Diary();
        imageCells = new int[Stand.CELLS];
        imageDiary = new Diary();
        ways = new Ways(city);
        search = new Search(city, now);
        route = new Route(city, now);
        gout = 2;
    }

    // ---- the texts ----

    public int feed(int a, int b, int c, int d, int e) {
        int more = Tape.bytesIn(a) + Tape.bytesIn(b) + Tape.bytesIn(c) + Tape.bytesIn(d) + Tape.bytesIn(e);
        if (tape.length + more > MOST_BYTES) {
            return NONE;
        }
        tape.addBytesOf(a);
        tape.addBytesOf(b);
        tape.addBytesOf(c);
        tape.addBytesOf(d);
        tape.addBytesOf(e);
        return tape.length;
    }

    public boolean end(int n) {
        if (n < 0 || n > tape.length) {
            return false;
        }
        tape.length = n;
        return true;
    }

    public int fault(int sort) {
        switch (sort) {
            case 0: return cityText.findFault();
            case 1: return laws.findFault();
            case 2: return dayBook.findFault();
            default: return -2;
        }
    }

    public int text(int sort) {
        if (fault(sort) != NONE) {
            return NONE;
        }
        int answer = sort == 0 ? settle() : sort == 1 ? laws.keepDraft() : dayBook.keepDraft();
        if (answer != NONE) {
            tape.length = 0;
        }
        return answer;
    }

    private int settle() {
        city.copyFrom(draft);
        now.beginCity();
        acts.forget();
        ways.forget();
        hasImage = false;
        return city.places;
    }

    public int rule(int what) {
        return city.isThere() && what >= 0 && what <= CONSIDERATION ? city.rules[what] : NONE;
    }

    public int spot(int place, int what) throws NoSuchElementException {
        if (!city.isPlace(place) || what < 0 || what > SPOT_VISITS) {
            throw new NoSuchElementException();
        }
        switch (what) {
            case SPOT_PATIENCE: return now.patienceOf(place);
            case SPOT_TROUBLES: return now.troublesOf(place);
            case SPOT_VISITS: return now.visitsOf(place);
            default: return city.toldOf(place, what);
        }
    }

    public boolean law(int law) {
        if (law != NONE && (law < 0 || law >= laws.kept)) {
            return false;
        }
        laws.holding = law;
        return true;
    }

    public boolean gout(int v) {
        if (v < 0 || v > 9 || v == gout) {
            return false;
        }
        gout = v;
        return true;
    }

    public int steps(int one, int other) {
        if (!city.isPlace(other) || one != NONE && !city.isPlace(one)) {
            return NONE;
        }
        return city.apart(one == NONE ? now.place() : one, other);
    }

    // ---- the ACTS ----

    public int walk(int place) {
        return doAsAct(WALK, place);
    }

    public int ledge() {
        return doAsAct(READ, NONE);
    }

    public int restore(int place) {
        return doAsAct(PUT_BACK, place);
    }

    public int patience(int place, int v) {
        if (!city.isPlace(place) || v < 0 || v > MOST_PATIENCE || v == now.patienceOf(place)) {
            return NONE;
        }
        int was = now.patienceOf(place);
        acts.keep(now);
        now.setPatience(place, v);
        return was;
    }

    public int day() {
        return doAsAct(DAY, NONE);
    }

    private int doAsAct(int what, int place) {
        if (!now.canDo(what, place)) {
            return NONE;
        }
        acts.keep(now);
        // The LOG tells a DAY as it ends, so it is written ahead of the change.
        if (what == DAY) {
            diary.write(now);
        }
        return now.carryOut(what, place);
    }

    public int years(int n, long seed) {
        if (!city.isThere() || n < 1 || n > 60) {
            return NONE;
        }
        long x = seed;
        int walks = 0;
        for (int i = 0; i < n; i++) {
            acts.keep(now);
            x = drawnBehind(x);
            if (draw(x, 10) < gout) {
                letDayGoBy();
            } else {
                x = drawnBehind(x);
                walks += walkOrRead(draw(x, city.places));
            }
        }
        return walks;
    }

    private void letDayGoBy() {
        if (now.canDo(DAY, NONE)) {
            diary.write(now);
            now.carryOut(DAY, NONE);
        }
    }

    private int walkOrRead(int place) {
        if (now.canDo(WALK, place)) {
            now.carryOut(WALK, place);
            return 1;
        }
        if (now.canDo(READ, NONE)) {
            now.carryOut(READ, NONE);
        }
        return 0;
    }

    private static long drawnBehind(long x) {
        return x * 6364136223846793005L + 1442695040888963407L;
    }

    private static int draw(long x, int sides) {
        return sides > 0 ? (int) ((x >>> 33) % sides) : 0;
    }

    public int undo() {
        return acts.takeBack(now);
    }

    public int log(int i, int what) {
        return diary.read(now.daysGone(), i, what);
    }

    // ---- DAYS told ----

    public int step(int days, int i, int what) {
        if (i < 0 || i >= dayBook.sizeOf(days) || what < 0 || what > 1) {
            return HIDDEN;
        }
        return what == 0 ? dayBook.whatOf(days, i) : dayBook.digitOf(days, i);
    }

    public int run(int days, int what) {
        if (!city.isThere() || !dayBook.isKept(days) || what < 0 || what > 1) {
            return HIDDEN;
        }
        trial.loadFrom(now.cells, 0);
        int size = dayBook.sizeOf(days);
        int done = 0;
        while (done < size && tryStep(days, done)) {
            done++;
        }
        if (what == 1) {
            return trial.seenInAll() - now.seenInAll();
        }
        return done < size ? done : NONE;
    }

    private boolean tryStep(int told, int i) {
        int what = dayBook.whatOf(told, i);
        int digit = dayBook.digitOf(told, i);
        if (!trial.canDo(what, digit)) {
            return false;
        }
        trial.carryOut(what, digit);
        return true;
    }

    public int perform(int days) {
        if (!city.isThere() || !dayBook.isKept(days)) {
            return NONE;
        }
        int size = dayBook.sizeOf(days);
        int done = 0;
        while (done < size && doAsAct(dayBook.whatOf(days, done), dayBook.digitOf(days, done)) != NONE) {
            done++;
        }
        return done;
    }

    // ---- what would be ----

    public int troubles(int place) {
        return city.isPlace(place) ? now.troubleNow(place, 0) : NONE;
    }

    public int sees(int what) {
        if (!city.isThere() || what < 0 || what > 2) {
            return NONE;
        }
        search.seeMost();
        return what == 0 ? search.bestRow : what == 1 ? search.bestGain : search.bestHour;
    }

    public int least(int places, int what) {
        if (!city.isSet(places) || what < 0 || what > 1) {
            return NONE;
        }
        search.troubleLeast(places);
        if (search.bestRow == NONE) {
            return NONE;
        }
        return what == 0 ? search.bestRow : search.bestGain;
    }

    public int manners(int places) {
        if (!city.isSet(places) || laws.holding != NONE) {
            return NONE;
        }
        int has = city.rules[CONSIDERATION];
        for (int tried = has; tried <= MOST_CONSIDERATION; tried++) {
            if (search.isBorne(places, tried)) {
                return tried - has;
            }
        }
        return NONE;
    }

    public int noted(int place, int t, boolean had) {
        if (!city.isPlace(place) || t < 0 || t > MOST_HOUR) {
            return NONE;
        }
        return ways.put(place, t, had);
    }

    public int ways(int k, int i) {
        if (!canGather(k) || i < NONE) {
            return NONE;
        }
        ways.gather(k, i, 0);
        return i == NONE ? ways.number : ways.found;
    }

    public int ask(int k, int t) {
        if (!canGather(k) || t < 0 || t > MOST_HOUR) {
            return NONE;
        }
        ways.gather(k, NONE, t);
        return ways.number == 0 ? NONE : ways.evenest();
    }

    public int always(int k) {
        if (!canGather(k)) {
            return NONE;
        }
        ways.gather(k, NONE, 0);
        return ways.number == 0 ? NONE : ways.common;
    }

    private boolean canGather(int k) {
        return city.isThere() && k >= 1 && k <= 4;
    }

    public int round(int place) {
        return city.roundComes(place);
    }

    public int meets(int row, int n) {
        return route.read(row, n) ? route.meetingPlace() : NONE;
    }

    public int odds(int row, int n, int chance) {
        if (chance < 0 || chance > 100 || !route.read(row, n)) {
            return NONE;
        }
        return route.partsThatWalk(chance);
    }

    // ---- games of two PLACES ----

    public int game(int one, int other, int x, int y, int what) {
        if (!areTwo(one, other) || !isShown(x) || !isShown(y) || what < 0 || what > 1) {
            return HIDDEN;
        }
        return what == 0 ? has(one, x, other, y) : has(other, y, one, x);
    }

    private boolean areTwo(int one, int other) {
        return city.isPlace(one) && city.isPlace(other) && one != other;
    }

    private static boolean isShown(int more) {
        return more >= 0 && more <= GAME_MOST;
    }

    private int has(int own, int ownMore, int other, int otherMore) {
        if (!comesTo(own, ownMore, other, otherMore)) {
            return -ownMore;
        }
        return 8 - now.troubleNow(own, ownMore) - ownMore;
    }

    private boolean comesTo(int own, int ownMore, int other, int otherMore) {
        int ownShown = city.toldOf(own, SPOT_SEEN) + ownMore;
        int otherShown = city.toldOf(other, SPOT_SEEN) + otherMore;
        if (ownShown != otherShown) {
            return ownShown > otherShown;
        }
        int ownWay = city.apart(now.place(), own);
        int otherWay = city.apart(now.place(), other);
        return ownWay != otherWay ? ownWay < otherWay : own < other;
    }

    public int rests(int one, int other, int i) {
        if (!areTwo(one, other) || i < NONE) {
            return NONE;
        }
        int number = 0;
        for (int x = 0; x <= GAME_MOST; x++) {
            for (int y = 0; y <= GAME_MOST; y++) {
                if (hasNoBetter(one, x, other, y) && hasNoBetter(other, y, one, x)) {
                    if (number == i) {
                        return 10 * x + y;
                    }
                    number++;
                }
            }
        }
        return i == NONE ? number : NONE;
    }

    private boolean hasNoBetter(int own, int ownMore, int other, int otherMore) {
        int has = has(own, ownMore, other, otherMore);
        for (int tried = 0; tried <= GAME_MOST; tried++) {
            if (has(own, tried, other, otherMore) > has) {
                return false;
            }
        }
        return true;
    }

    // ---- what is ----

    public int cost(int place) {
        return city.isPlace(place) ? city.apart(now.place(), place) + city.apart(NONE, place) : NONE;
    }

    public int all(int what) {
        if (!city.isThere()) {
            return NONE;
        }
        switch (what) {
            case ALL_KNOWS: return now.secrets();
            case ALL_TOOMUCH: return now.tooMuch();
            case ALL_CORNER:
            case ALL_BUSIEST:
            case ALL_FINEST:
            case ALL_FAREST:
            case ALL_NEAREST: return placeWithMost(what);
            case ALL_REACH: return now.reach();
            case ALL_LEFT: return city.rules[BREATH] - now.tired();
            case ALL_SPREAD: return city.spread();
            default: return NONE;
        }
    }

    private int placeWithMost(int what) {
        int best = 0;
        for (int place = 1; place < city.places; place++) {
            if (merit(what, place) > merit(what, best)) {
                best = place;
            }
        }
        return best;
    }

    private int merit(int what, int place) {
        switch (what) {
            case ALL_CORNER: return now.patienceOf(place) - now.troublesOf(place);
            case ALL_BUSIEST: return now.troublesOf(place);
            case ALL_FINEST: return city.toldOf(place, SPOT_SEEN);
            case ALL_FAREST: return city.apart(NONE, place);
            // No PLACE is as far as 100, so where he is comes behind all others.
            default: return place == now.place() ? -100 : -city.apart(now.place(), place);
        }
    }

    public int kinds(int kind) {
        return city.isThere() && kind >= 0 && kind < KINDS ? city.ofKind(kind) : NONE;
    }

    public int calm(int place) {
        if (!city.isPlace(place)) {
            return NONE;
        }
        for (int gone = 0; gone <= 60; gone++) {
            if (now.troublesOf(place) - gone * city.rules[CONSIDERATION] <= now.patienceOf(place)) {
                return gone;
            }
        }
        return NONE;
    }

    public int image() {
        if (!city.isThere()) {
            return NONE;
        }
        now.saveTo(imageCells, 0);
        imageDiary.copyFrom(diary);
        hasImage = true;
        return now.daysGone();
    }

    public int back() {
        if (!hasImage) {
            return NONE;
        }
        now.loadFrom(imageCells, 0);
        diary.copyFrom(imageDiary);
        acts.forget();
        return now.daysGone();
    }

    public int count(int what) {
        switch (what) {
            case 0: return city.places;
            case 1: return laws.kept;
            case 2: return dayBook.kept;
            case 3: return tape.length;
            case 4: return laws.holding;
            case 5: return now.daysGone();
            case 6: return now.hour();
            case 7: return now.tired();
            case 8: return now.place();
            case 9: return now.seenToday();
            case 10: return now.seenInAll();
            case 11: return gout;
            case 12: return ways.puts;
            case 13: return Diary.lengthOn(now.daysGone());
            case 14: return acts.number;
            default: return HIDDEN;
        }
    }

    private static int held(int low, int high, long number) {
        return number < low ? low : number > high ? high : (int) number;
    }

    private static int placeIn(String signs, int sign) {
        for (int i = 0; i < signs.length(); i++) {
            if (signs.charAt(i) == sign) {
                return i;
            }
        }
        return NONE;
    }

    private static boolean isIn(int bits, int place) {
        return (bits >> place & 1) != 0;
    }

    /** The bytes that were fed, and where the reading of them is. */
    private static final class Tape {
        static final int END = -1;

        final int[] bytes = new int[MOST_BYTES];
        int length;
        int at;
        int value;

        static int bytesIn(int number) {
            int some = 0;
            for (int shift = 24; shift >= 0; shift -= 8) {
                if ((number >>> shift & 255) != 0) {
                    some++;
                }
            }
            return some;
        }

        void addBytesOf(int number) {
            for (int shift = 24; shift >= 0; shift -= 8) {
                int next = number >>> shift & 255;
                if (next != 0 && length < MOST_BYTES) {
                    bytes[length] = next;
                    length++;
                }
            }
        }

        int sign() {
            while (at < length && bytes[at] == ' ') {
                at++;
            }
            return at < length ? bytes[at] : END;
        }

        boolean take(char wanted) {
            if (sign() != wanted) {
                return false;
            }
            at++;
            return true;
        }

        static boolean isDigit(int sign) {
            return sign >= '0' && sign <= '9';
        }

        // What is wrong is always told by where the reading stops.
        boolean readNumber(int mostDigits, int low, int high) {
            sign();
            int digits = 0;
            value = 0;
            while (at < length && isDigit(bytes[at])) {
                if (digits == mostDigits) {
                    return false;
                }
                value = value * 10 + bytes[at] - '0';
                digits++;
                at++;
            }
            if (digits == 0) {
                return false;
            }
            if (value < low || value > high) {
                at--;
                return false;
            }
            return true;
        }
    }

    /** RULES and PLACES as the text told them. */
    private static final class City {
        final int[] rules = new int[3];
        final int[][] spots = new int[MOST_PLACES][5];
        int places;

        // STEPS between all, HOME first: the searches ask for them far too often to measure anew.
        private final int[][] ways = new int[MOST_PLACES + 1][MOST_PLACES + 1];

        void copyFrom(City other) {
            System.arraycopy(other.rules, 0, rules, 0, rules.length);
            for (int place = 0; place < MOST_PLACES; place++) {
                System.arraycopy(other.spots[place], 0, spots[place], 0, spots[place].length);
            }
            places = other.places;
            measure();
        }

        void measure() {
            for (int one = NONE; one < places; one++) {
                for (int other = NONE; other < places; other++) {
                    ways[one + 1][other + 1] = Math.abs(toldOf(one, SPOT_X) - toldOf(other, SPOT_X))
                            + Math.abs(toldOf(one, SPOT_Y) - toldOf(other, SPOT_Y));
                }
            }
        }

        boolean isThere() {
            return places > 0;
        }

        boolean isPlace(int place) {
            return place >= 0 && place < places;
        }

        boolean isSet(int bits) {
            return bits > 0 && bits < 1 << places;
        }

        // HOME is no PLACE, and what is told of it is 0: so it lies at 0, 0.
        int toldOf(int place, int what) {
            return isPlace(place) && what >= 0 && what <= SPOT_PATIENCE ? spots[place][what] : 0;
        }

        int apart(int one, int other) {
            return one >= NONE && one < places && other >= NONE && other < places ? ways[one + 1][other + 1] : 0;
        }

        boolean hasTwoInOne() {
            for (int one = 0; one < places; one++) {
                for (int other = 0; other < one; other++) {
                    if (apart(one, other) == 0) {
                        return true;
                    }
                }
            }
            return false;
        }

        int spread() {
            int most = 0;
            for (int one = 0; one < places; one++) {
                for (int other = 0; other < one; other++) {
                    most = Math.max(most, apart(one, other));
                }
            }
            return most;
        }

        int ofKind(int kind) {
            int bits = 0;
            for (int place = 0; place < places; place++) {
                if (toldOf(place, SPOT_KIND) == kind) {
                    bits |= 1 << place;
                }
            }
            return bits;
        }

        int roundComes(int wanted) {
            int hour = 0;
            int from = NONE;
            for (int kind = 0; kind < KINDS; kind++) {
                for (int place = 0; place < places; place++) {
                    if (toldOf(place, SPOT_KIND) == kind) {
                        hour += apart(from, place);
                        if (place == wanted) {
                            return hour;
                        }
                        hour += 2;
                        from = place;
                    }
                }
            }
            return NONE;
        }
    }

    /** Reads the TAPE as a CITY into a draft. */
    private static final class CityText {
        private static final String RULE_LETTERS = "bhc";
        private static final int[] RULE_LOW = {1, 1, 0};
        private static final int[] RULE_HIGH = {60, 60, 9};
        private static final int[] RULE_WITHOUT = {30, 40, 2};
        private static final String SPOT_LETTERS = "xykvo";
        private static final int[] SPOT_LOW = {0, 0, 0, 0, 0};
        private static final int[] SPOT_HIGH = {9, 9, 3, 9, 30};
        private static final int[] SPOT_WITHOUT = {0, 0, 0, 3, 6};

        private final Tape tape;
        private final City draft;
        private boolean rulesTold;

        CityText(Tape tape, City draft) {
            this.tape = tape;
            this.draft = draft;
        }

        int findFault() {
            tape.at = 0;
            rulesTold = false;
            draft.places = 0;
            System.arraycopy(RULE_WITHOUT, 0, draft.rules, 0, RULE_WITHOUT.length);
            for (int clause = 0; clause <= MOST_PLACES + 1; clause++) {
                if (!readClause()) {
                    return tape.at;
                }
                if (tape.sign() == Tape.END) {
                    draft.measure();
                    return draft.places < 2 || draft.hasTwoInOne() ? tape.length : NONE;
                }
                if (!tape.take(';')) {
                    return tape.at;
                }
            }
            return tape.at;
        }

        private boolean readClause() {
            int sign = tape.sign();
            if (sign == 's' && !rulesTold) {
                rulesTold = true;
                tape.at++;
                return readItems(RULE_LETTERS, RULE_LOW, RULE_HIGH, draft.rules);
            }
            if (sign == 'p' && draft.places < MOST_PLACES) {
                int[] spot = draft.spots[draft.places];
                draft.places++;
                tape.at++;
                System.arraycopy(SPOT_WITHOUT, 0, spot, 0, SPOT_WITHOUT.length);
                return readItems(SPOT_LETTERS, SPOT_LOW, SPOT_HIGH, spot);
            }
            return false;
        }

        // A letter that is told twice stays unread: the reading stops at it.
        private boolean readItems(String letters, int[] low, int[] high, int[] into) {
            int told = 0;
            for (int n = 0; n < letters.length(); n++) {
                int item = placeIn(letters, tape.sign());
                if (item < 0 || item >= into.length || isIn(told, item)) {
                    return true;
                }
                told |= 1 << item;
                tape.at++;
                if (!tape.readNumber(2, low[item], high[item])) {
                    return false;
                }
                into[item] = tape.value;
            }
            return true;
        }
    }

    /**
     * Reads LAWS and tells their WORTH. A LAW is kept as a row of codes in which signs stand behind
     * what they join: a number is itself, a letter -1 .. -6, a sign its byte, negative.
     */
    private static final class LawBook {
        private static final String LETTERS = "kvohnt";
        private static final int MOST_NESTED = 6;
        private static final int MOST_NUMBER = 1000000;
        private static final int MOST_STACK = 64;

        final int[] letters = new int[6];
        int kept;
        int holding = NONE;

        private final Tape tape;
        // One row more than can be kept: the draft stands in the first free one.
        private final int[][] codes = new int[MOST_TEXTS + 1][MOST_BYTES];
        private final int[] sizes = new int[MOST_TEXTS + 1];
        private final int[] stack = new int[MOST_STACK];

        LawBook(Tape tape) {
            this.tape = tape;
        }

        int keepDraft() {
            if (kept >= MOST_TEXTS) {
                return NONE;
            }
            kept++;
            return kept - 1;
        }

        int findFault() {
            tape.at = 0;
            sizes[kept] = 0;
            for (int clause = 0; clause <= MOST_BYTES; clause++) {
                if (!readClause()) {
                    return tape.at;
                }
                if (tape.sign() == Tape.END) {
                    return NONE;
                }
                if (!tape.take(';')) {
                    return tape.at;
                }
            }
            return tape.at;
        }

        private void add(int code) {
            int size = sizes[kept];
            if (size < MOST_BYTES) {
                codes[kept][size] = code;
                sizes[kept] = size + 1;
            }
        }

        private boolean readClause() {
            if (!tape.take('y') || !tape.take(':')) {
                return false;
            }
            boolean sumStands = !isNesting(tape.sign());
            if (sumStands && !readSum(0)) {
                return false;
            }
            if (!sumStands || isComparing(tape.sign())) {
                if (!readCondition(0, sumStands) || !tape.take('?')) {
                    return false;
                }
                add(-'?');
                if (!readSum(0)) {
                    return false;
                }
            }
            add(-';');
            return true;
        }

        private static boolean isNesting(int sign) {
            return sign == '!' || sign == '(';
        }

        private static boolean isComparing(int sign) {
            return sign == '=' || sign == '<' || sign == '>';
        }

        // sumStands: the first SUM was read before it was known to belong to a CONDITION.
        private boolean readCondition(int depth, boolean sumStands) {
            if (!readTruth(depth, sumStands)) {
                return false;
            }
            for (int n = 0; n < MOST_BYTES && tape.take('|'); n++) {
                if (!readTruth(depth, false)) {
                    return false;
                }
                add(-'|');
            }
            return true;
        }

        private boolean readTruth(int depth, boolean sumStands) {
            if (!readUnit(depth, sumStands)) {
                return false;
            }
            for (int n = 0; n < MOST_BYTES && tape.take('&'); n++) {
                if (!readUnit(depth, false)) {
                    return false;
                }
                add(-'&');
            }
            return true;
        }

        private boolean readUnit(int depth, boolean sumStands) {
            if (!sumStands && isNesting(tape.sign())) {
                return readNested(depth);
            }
            if (!sumStands && !readSum(depth)) {
                return false;
            }
            int sign = tape.sign();
            if (!isComparing(sign)) {
                return false;
            }
            tape.at++;
            if (!readSum(depth)) {
                return false;
            }
            add(-sign);
            return true;
        }

        private boolean readNested(int depth) {
            if (depth >= MOST_NESTED) {
                return false;
            }
            if (tape.take('(')) {
                return readCondition(depth + 1, false) && tape.take(')');
            }
            if (!tape.take('!') || !readUnit(depth + 1, false)) {
                return false;
            }
            add(-'!');
            return true;
        }

        private boolean readSum(int depth) {
            if (!readTerm(depth)) {
                return false;
            }
            for (int n = 0; n < MOST_BYTES; n++) {
                int sign = tape.sign();
                if (sign != '+' && sign != '-') {
                    return true;
                }
                tape.at++;
                if (!readTerm(depth)) {
                    return false;
                }
                add(-sign);
            }
            return true;
        }

        private boolean readTerm(int depth) {
            if (!readAtom(depth)) {
                return false;
            }
            for (int n = 0; n < MOST_BYTES; n++) {
                int sign = tape.sign();
                if (sign != '*' && sign != '/') {
                    return true;
                }
                tape.at++;
                if (!readAtom(depth)) {
                    return false;
                }
                add(-sign);
            }
            return true;
        }

        private boolean readAtom(int depth) {
            int sign = tape.sign();
            if (sign == '[') {
                return depth < MOST_NESTED && tape.take('[') && readSum(depth + 1) && tape.take(']');
            }
            int letter = placeIn(LETTERS, sign);
            if (letter != NONE) {
                tape.at++;
                add(-1 - letter);
                return true;
            }
            if (!tape.readNumber(4, 0, 9999)) {
                return false;
            }
            add(tape.value);
            return true;
        }

        int worth() {
            if (holding < 0 || holding >= kept) {
                return 0;
            }
            int[] code = codes[holding];
            int top = 0;
            boolean skips = false;
            for (int i = 0; i < sizes[holding]; i++) {
                int next = code[i];
                if (skips) {
                    skips = next != -';';
                } else if (next >= -letters.length && top < MOST_STACK) {
                    stack[top] = next >= 0 ? next : letters[-1 - next];
                    top++;
                } else if (top < 1) {
                    return 0;
                } else if (next == -';') {
                    return stack[top - 1];
                } else if (next == -'?') {
                    top--;
                    skips = stack[top] == 0;
                } else if (next == -'!') {
                    stack[top - 1] = 1 - stack[top - 1];
                } else if (top > 1) {
                    top--;
                    stack[top - 1] = held(-MOST_NUMBER, MOST_NUMBER, joined(-next, stack[top - 1], stack[top]));
                }
            }
            return 0;
        }

        private static long joined(int sign, long left, long right) {
            switch (sign) {
                case '+': return left + right;
                case '-': return left - right;
                case '*': return left * right;
                case '/': return right == 0 ? 0 : left / right;
                case '=': return left == right ? 1 : 0;
                case '<': return left < right ? 1 : 0;
                case '>': return left > right ? 1 : 0;
                case '&': return left & right;
                default: return left | right;
            }
        }
    }

    /** Reads DAYS and keeps their STEPS. */
    private static final class DayBook {
        private static final String LETTERS = "wrbd";
        private static final int MOST_STEPS = 16;

        int kept;

        private final Tape tape;
        // One row more than can be kept: the draft stands in the first free one.
        private final int[][] whats = new int[MOST_TEXTS + 1][MOST_STEPS];
        private final int[][] digits = new int[MOST_TEXTS + 1][MOST_STEPS];
        private final int[] sizes = new int[MOST_TEXTS + 1];

        DayBook(Tape tape) {
            this.tape = tape;
        }

        int keepDraft() {
            if (kept >= MOST_TEXTS) {
                return NONE;
            }
            kept++;
            return kept - 1;
        }

        boolean isKept(int told) {
            return told >= 0 && told < kept;
        }

        int sizeOf(int told) {
            return isKept(told) ? sizes[told] : 0;
        }

        int whatOf(int told, int i) {
            return i >= 0 && i < sizeOf(told) ? whats[told][i] : NONE;
        }

        int digitOf(int told, int i) {
            return i >= 0 && i < sizeOf(told) ? digits[told][i] : NONE;
        }

        int findFault() {
            tape.at = 0;
            for (int i = 0; i < MOST_STEPS; i++) {
                if (!readStep(i)) {
                    return tape.at;
                }
                sizes[kept] = i + 1;
                if (tape.sign() == Tape.END) {
                    return NONE;
                }
                if (i == MOST_STEPS - 1 || !tape.take(';')) {
                    return tape.at;
                }
            }
            return tape.at;
        }

        private boolean readStep(int i) {
            int what = placeIn(LETTERS, tape.sign());
            if (what == NONE) {
                return false;
            }
            tape.at++;
            whats[kept][i] = what;
            digits[kept][i] = NONE;
            if (what != WALK && what != PUT_BACK) {
                return true;
            }
            int sign = tape.sign();
            if (!Tape.isDigit(sign)) {
                return false;
            }
            digits[kept][i] = sign - '0';
            tape.at++;
            return true;
        }
    }

    /** How it stands with him and the PLACES: all that an ACT can change but the LOG. */
    private static final class Stand {
        static final int CELLS = 7 + 3 * MOST_PLACES;

        private static final int AT = 0;
        private static final int HOUR = 1;
        private static final int TIRED = 2;
        private static final int SEEN_TODAY = 3;
        private static final int SEEN_IN_ALL = 4;
        private static final int SECRETS = 5;
        private static final int DAYS_GONE = 6;
        private static final int VISITS = 7;
        private static final int TROUBLES = VISITS + MOST_PLACES;
        private static final int PATIENCE = TROUBLES + MOST_PLACES;

        private final City city;
        private final LawBook laws;
        // One row holds everything, so that keeping and taking back is one copy.
        final int[] cells = new int[CELLS];

        Stand(City city, LawBook laws) {
            this.city = city;
            this.laws = laws;
            cells[AT] = NONE;
        }

        void beginCity() {
            for (int i = 0; i < CELLS; i++) {
                cells[i] = 0;
            }
            cells[AT] = NONE;
            for (int place = 0; place < MOST_PLACES; place++) {
                cells[PATIENCE + place] = city.toldOf(place, SPOT_PATIENCE);
            }
        }

        void saveTo(int[] row, int from) {
            if (from >= 0 && from + CELLS <= row.length) {
                System.arraycopy(cells, 0, row, from, CELLS);
            }
        }

        void loadFrom(int[] row, int from) {
            if (from >= 0 && from + CELLS <= row.length) {
                System.arraycopy(row, from, cells, 0, CELLS);
            }
        }

        int place() {
            return cells[AT];
        }

        int hour() {
            return cells[HOUR];
        }

        int tired() {
            return cells[TIRED];
        }

        int seenToday() {
            return cells[SEEN_TODAY];
        }

        int seenInAll() {
            return cells[SEEN_IN_ALL];
        }

        int secrets() {
            return cells[SECRETS];
        }

        int daysGone() {
            return cells[DAYS_GONE];
        }

        int visitsOf(int place) {
            return city.isPlace(place) ? cells[VISITS + place] : 0;
        }

        int troublesOf(int place) {
            return city.isPlace(place) ? cells[TROUBLES + place] : 0;
        }

        int patienceOf(int place) {
            return city.isPlace(place) ? cells[PATIENCE + place] : 0;
        }

        void setPatience(int place, int v) {
            if (city.isPlace(place)) {
                cells[PATIENCE + place] = v;
            }
        }

        boolean isTooMuch(int place, int more) {
            return troublesOf(place) + more > patienceOf(place);
        }

        int tooMuch() {
            int bits = 0;
            for (int place = 0; place < city.places; place++) {
                if (isTooMuch(place, 0)) {
                    bits |= 1 << place;
                }
            }
            return bits;
        }

        int reach() {
            int bits = 0;
            for (int place = 0; place < city.places; place++) {
                if (canDo(WALK, place)) {
                    bits |= 1 << place;
                }
            }
            return bits;
        }

        boolean couldWalk(int from, int hour, int tired, int place) {
            if (!city.isPlace(place) || place == from) {
                return false;
            }
            int way = city.apart(from, place);
            return tired + way <= city.rules[BREATH] && hour + way + 1 <= city.rules[HOURS];
        }

        static int troubleWithoutLaw(int visits, int consideration) {
            return held(0, 30, 4 + 2 * visits - consideration);
        }

        // hour and tired are those as he comes; seenMore is what a GAME adds to what is SEEN.
        int troubleThen(int place, int hour, int tired, int seenMore) {
            if (laws.holding == NONE) {
                return troubleWithoutLaw(visitsOf(place), city.rules[CONSIDERATION]);
            }
            laws.letters[0] = city.toldOf(place, SPOT_KIND);
            laws.letters[1] = city.toldOf(place, SPOT_SEEN) + seenMore;
            laws.letters[2] = patienceOf(place);
            laws.letters[3] = hour;
            laws.letters[4] = visitsOf(place);
            laws.letters[5] = tired;
            return held(0, 30, laws.worth());
        }

        int troubleNow(int place, int seenMore) {
            int way = city.apart(cells[AT], place);
            return troubleThen(place, cells[HOUR] + way, cells[TIRED] + way, seenMore);
        }

        boolean canDo(int what, int place) {
            switch (what) {
                case WALK: return couldWalk(cells[AT], cells[HOUR], cells[TIRED], place);
                case READ: return cells[TIRED] > 0 && cells[HOUR] < city.rules[HOURS];
                case PUT_BACK: return city.isPlace(place) && isIn(cells[SECRETS], place);
                case DAY: return city.isThere() && cells[DAYS_GONE] < MOST_DAY;
                default: return false;
            }
        }

        /** Behind canDo alone. */
        int carryOut(int what, int place) {
            switch (what) {
                case WALK: return comeTo(place);
                case READ: return readOnLedge();
                case PUT_BACK: return putBack(place);
                default: return endDay();
            }
        }

        private int comeTo(int place) {
            if (!city.isPlace(place)) {
                return NONE;
            }
            int way = city.apart(cells[AT], place);
            int trouble = troubleThen(place, cells[HOUR] + way, cells[TIRED] + way, 0);
            cells[AT] = place;
            cells[HOUR] += way + 1;
            cells[TIRED] += way;
            if (cells[VISITS + place] == 0) {
                cells[SEEN_TODAY] += city.toldOf(place, SPOT_SEEN);
                cells[SEEN_IN_ALL] += city.toldOf(place, SPOT_SEEN);
            }
            cells[VISITS + place]++;
            cells[TROUBLES + place] += trouble;
            cells[SECRETS] |= 1 << place;
            return trouble;
        }

        private int readOnLedge() {
            cells[HOUR]++;
            cells[TIRED] = Math.max(0, cells[TIRED] - 3);
            return cells[TIRED];
        }

        private int putBack(int place) {
            if (!city.isPlace(place)) {
                return NONE;
            }
            cells[SECRETS] &= ~(1 << place);
            cells[TROUBLES + place] /= 2;
            return cells[TROUBLES + place];
        }

        private int endDay() {
            cells[AT] = NONE;
            cells[HOUR] = 0;
            cells[TIRED] = 0;
            cells[SEEN_TODAY] = 0;
            cells[DAYS_GONE]++;
            for (int place = 0; place < MOST_PLACES; place++) {
                cells[VISITS + place] = 0;
                int left = cells[TROUBLES + place] - city.rules[CONSIDERATION];
                cells[TROUBLES + place] = Math.max(0, left);
            }
            return cells[DAYS_GONE];
        }
    }

    /** The latest stands ahead of ACTS, going round. */
    private static final class Acts {
        private static final int MOST = 40;

        int number;

        private final int[] rows = new int[MOST * Stand.CELLS];
        private int next;

        void forget() {
            number = 0;
        }

        void keep(Stand stand) {
            stand.saveTo(rows, next * Stand.CELLS);
            next = next + 1 < MOST ? next + 1 : 0;
            number = Math.min(MOST, number + 1);
        }

        int takeBack(Stand stand) {
            if (number == 0) {
                return NONE;
            }
            next = next > 0 ? next - 1 : MOST - 1;
            stand.loadFrom(rows, next * Stand.CELLS);
            number--;
            return number;
        }
    }

    /**
     * The LOG. Each DAY has its own row, going round behind 100: the 60 that are shown and the 40
     * that can be UNDONE. So an ACT that is UNDONE leaves the LOG as it is: the DAY alone tells
     * how much of it is shown.
     */
    private static final class Diary {
        private static final int ROWS = 100;
        private static final int SHOWN = 60;
        private static final int WHATS = 3;

        private final int[] cells = new int[ROWS * WHATS];

        private static int rowOf(int day) {
            return Math.floorMod(day, ROWS) * WHATS;
        }

        static int lengthOn(int day) {
            return Math.min(SHOWN, day);
        }

        void copyFrom(Diary other) {
            System.arraycopy(other.cells, 0, cells, 0, cells.length);
        }

        void write(Stand stand) {
            int row = rowOf(stand.daysGone());
            cells[row] = stand.hour();
            cells[row + 1] = stand.seenToday();
            cells[row + 2] = stand.tooMuch();
        }

        int read(int day, int i, int what) {
            if (i < 0 || i >= lengthOn(day) || what < 0 || what >= WHATS) {
                return NONE;
            }
            return cells[rowOf(day - 1 - i) + what];
        }
    }

    /** What was PUT, and the WAYS that fit. */
    private static final class Ways {
        private static final int MOST_PUT = 10;
        private static final int NEVER = 1000;

        int puts;
        int number;
        int found;
        int common;

        private final City city;
        private final int[] putPlaces = new int[MOST_PUT];
        private final int[] putHours = new int[MOST_PUT];
        private final boolean[] putHad = new boolean[MOST_PUT];
        private final int[] comes = new int[MOST_PLACES];
        private final int[] yes = new int[MOST_PLACES];
        private int wanted;
        private int askedHour;

        Ways(City city) {
            this.city = city;
        }

        void forget() {
            puts = 0;
        }

        int put(int place, int hour, boolean had) {
            if (puts >= MOST_PUT) {
                return NONE;
            }
            putPlaces[puts] = place;
            putHours[puts] = hour;
            putHad[puts] = had;
            puts++;
            return puts;
        }

        void gather(int k, int wanted, int askedHour) {
            this.wanted = wanted;
            this.askedHour = askedHour;
            number = 0;
            found = NONE;
            common = (1 << city.places) - 1;
            for (int place = 0; place < MOST_PLACES; place++) {
                comes[place] = NEVER;
                yes[place] = 0;
            }
            goOn(k, NONE, 0, 0, 0);
        }

        private void goOn(int left, int from, int hour, int used, int row) {
            if (left == 0) {
                if (fits()) {
                    tally(used, row);
                }
                return;
            }
            for (int place = 0; place < city.places; place++) {
                if (!isIn(used, place)) {
                    int then = hour + city.apart(from, place);
                    comes[place] = then;
                    goOn(left - 1, place, then + 1, used | 1 << place, row * 10 + place);
                    comes[place] = NEVER;
                }
            }
        }

        private boolean fits() {
            for (int i = 0; i < puts; i++) {
                if (hasBeen(putPlaces[i], putHours[i]) != putHad[i]) {
                    return false;
                }
            }
            return true;
        }

        private boolean hasBeen(int place, int hour) {
            return city.isPlace(place) && comes[place] <= hour;
        }

        private void tally(int used, int row) {
            if (number == wanted) {
                found = row;
            }
            number++;
            common &= used;
            for (int place = 0; place < city.places; place++) {
                if (hasBeen(place, askedHour)) {
                    yes[place]++;
                }
            }
        }

        int evenest() {
            int best = 0;
            for (int place = 1; place < city.places; place++) {
                if (Math.abs(number - 2 * yes[place]) < Math.abs(number - 2 * yes[best])) {
                    best = place;
                }
            }
            return best;
        }
    }

    /**
     * Looks through rows of unlike PLACES. As no PLACE comes twice in a row, what he did ahead
     * in it changes only where he is, the HOUR and how TIRED he is: nothing else is carried on.
     */
    private static final class Search {
        // Above what all PLACES together can be troubled by one row.
        private static final int BEYOND = 1000;

        int bestRow;
        int bestGain;
        int bestHour;

        private final City city;
        private final Stand stand;
        private int bestLength;

        Search(City city, Stand stand) {
            this.city = city;
            this.stand = stand;
        }

        void seeMost() {
            bestRow = NONE;
            bestLength = 0;
            bestGain = 0;
            bestHour = stand.hour();
            seeOn(stand.place(), stand.hour(), stand.tired(), 0, 0, 0);
        }

        private void seeOn(int from, int hour, int tired, int used, int row, int gain) {
            int length = Integer.bitCount(used);
            if (isBetter(gain, length)) {
                bestRow = row;
                bestLength = length;
                bestGain = gain;
                bestHour = hour;
            }
            if (!isBetter(gain + leftToSee(used), length + leftPlaces(used))) {
                return;
            }
            for (int place = 0; place < city.places; place++) {
                if (!isIn(used, place) && stand.couldWalk(from, hour, tired, place)) {
                    int way = city.apart(from, place);
                    if (isBorneBy(place, stand.troubleThen(place, hour + way, tired + way, 0))) {
                        seeOn(place, hour + way + 1, tired + way, used | 1 << place,
                                row * 10 + place, gain + newAt(place));
                    }
                }
            }
        }

        private boolean isBetter(int gain, int length) {
            return gain > bestGain || gain == bestGain && length < bestLength;
        }

        private int newAt(int place) {
            return stand.visitsOf(place) == 0 ? city.toldOf(place, SPOT_SEEN) : 0;
        }

        private int leftToSee(int used) {
            int sum = 0;
            for (int place = 0; place < city.places; place++) {
                sum += isIn(used, place) ? 0 : newAt(place);
            }
            return sum;
        }

        // To see all that is left takes at least so many PLACES more: if a row as good is as short, it is in vain.
        private int leftPlaces(int used) {
            int some = 0;
            for (int place = 0; place < city.places; place++) {
                some += isIn(used, place) || newAt(place) == 0 ? 0 : 1;
            }
            return some;
        }

        // TROUBLES never get less within a row, so what is too much on the way is so at its end.
        private boolean isBorneBy(int place, int trouble) {
            return stand.isTooMuch(place, 0) || !stand.isTooMuch(place, trouble);
        }

        void troubleLeast(int set) {
            bestRow = NONE;
            bestGain = BEYOND;
            troubleOn(stand.place(), stand.hour(), stand.tired(), set, 0, 0);
        }

        private void troubleOn(int from, int hour, int tired, int left, int row, int more) {
            // Rows come rising, so a later one that is only as good is not the least.
            if (more >= bestGain) {
                return;
            }
            if (left == 0) {
                bestRow = row;
                bestGain = more;
                return;
            }
            for (int place = 0; place < city.places; place++) {
                if (isIn(left, place) && stand.couldWalk(from, hour, tired, place)) {
                    int way = city.apart(from, place);
                    int trouble = stand.troubleThen(place, hour + way, tired + way, 0);
                    troubleOn(place, hour + way + 1, tired + way, left & ~(1 << place),
                            row * 10 + place, more + trouble);
                }
            }
        }

        boolean isBorne(int set, int consideration) {
            int from = stand.place();
            int hour = stand.hour();
            int tired = stand.tired();
            for (int place = 0; place < city.places; place++) {
                int trouble = 0;
                if (isIn(set, place) && stand.couldWalk(from, hour, tired, place)) {
                    int way = city.apart(from, place);
                    hour += way + 1;
                    tired += way;
                    from = place;
                    trouble = Stand.troubleWithoutLaw(stand.visitsOf(place), consideration);
                }
                if (stand.isTooMuch(place, trouble)) {
                    return false;
                }
            }
            return true;
        }
    }

    /** A row of PLACES told as a number, and how he would fare by it. */
    private static final class Route {
        private final City city;
        private final Stand stand;
        private final int[] places = new int[MOST_PLACES];
        private int length;
        private int chance;

        Route(City city, Stand stand) {
            this.city = city;
            this.stand = stand;
        }

        boolean read(int row, int n) {
            if (row < 0 || n < 1 || n > MOST_PLACES) {
                return false;
            }
            int rest = row;
            int used = 0;
            for (int i = n - 1; i >= 0; i--) {
                int place = rest % 10;
                if (!city.isPlace(place) || isIn(used, place)) {
                    return false;
                }
                places[i] = place;
                used |= 1 << place;
                rest /= 10;
            }
            length = n;
            return rest == 0;
        }

        int meetingPlace() {
            int from = stand.place();
            int hour = stand.hour();
            int tired = stand.tired();
            for (int i = 0; i < length; i++) {
                int place = places[i];
                if (!stand.couldWalk(from, hour, tired, place)) {
                    return NONE;
                }
                int way = city.apart(from, place);
                int behind = hour + way - city.roundComes(place);
                if (behind == 0 || behind == 1) {
                    return place;
                }
                from = place;
                hour += way + 1;
                tired += way;
            }
            return NONE;
        }

        int partsThatWalk(int chance) {
            this.chance = chance;
            return partsOf(1000000000, 0, stand.place(), stand.hour(), stand.tired());
        }

        private int partsOf(int part, int i, int from, int hour, int tired) {
            if (i >= length || i >= MOST_PLACES) {
                return part;
            }
            int place = places[i];
            int way = city.apart(from, place);
            int wet = (int) ((long) part * chance / 100);
            int comes = 0;
            if (stand.couldWalk(from, hour, tired, place)) {
                comes += partsOf(part - wet, i + 1, place, hour + way + 1, tired + way);
            }
            if (stand.couldWalk(from, hour + 1, tired, place)) {
                comes += partsOf(wet, i + 1, place, hour + way + 2, tired + way);
            }
            return comes;
        }
    }
}
