import java.util.Arrays;

/**
 * A suitcase for weeks: a journey told by a text, lived day by day, and what is best packed for it.
 * Sets of things and weathers are bits; how all things are is told by two bits a thing.
 */
public final class PackedCase {
    public static final int BAD = -1, STATE = -2, FULL = -3, NONE = -9;
    public static final int NO = -1000000;

    private static final int MOST_THINGS = 6, MOST_DAYS = 8, MOST_SETS = 1 << MOST_THINGS;
    private static final int TOP = 0, BOTTOM = 1, COAT = 2;
    private static final int KIND = 0, WARM = 1, FINE = 2, SIZE = 3, WEIGHT = 4, PRICE = 5, LASTS = 6, LATE = 7;
    private static final int FACTS = 8, STATE_NOW = 8;
    private static final int DAY_WARM = 0, DAY_FINE = 1, DAY_WASH = 2, DAY_RAIN = 3;
    private static final int WANTS = 4;
    private static final int FRESH = 0, WORN = 1, DIRTY = 2, WET = 3;
    private static final int LIMIT = 0, LAYERS = 1, DEEP = 2, TUNES = 3;
    private static final int[] TUNE_LEAST = {0, 1, 1};
    private static final int[] TUNE_MOST = {999, 4, 999};

    private final Text text = new Text();
    private final Trip trip = new Trip();
    // A text is read into the draft, so that a fault leaves the trip as it was.
    private final Trip draft = new Trip();
    private final Reader reader = new Reader(text, draft);
    private final Life life = new Life();
    private final Life firstImage = new Life();
    private final Life secondImage = new Life();
    private final Planner planner = new Planner(trip);
    private final Chooser chooser = new Chooser(trip, planner);
    private final Packer packer = new Packer(trip, planner);
    private final Lists lists = new Lists();
    private final Kinds kinds = new Kinds(trip);
    private final int[] tunes = {200, 2, 100};

    public PackedCase() {
    }

    // ---- the journey

    public int type(long v, int n) {
        if (n < 1 || n > 8) {
            return BAD;
        }
        if (!text.hasRoom(n)) {
            return FULL;
        }
        for (int k = n - 1; k >= 0; k--) {
            text.add((int) (v >> 8 * k) & 255);
        }
        return text.length();
    }

    public int clear() {
        int had = text.length();
        text.empty();
        return had;
    }

    public int journey() {
        int items = reader.read();
        if (items < 0) {
            return items;
        }
        trip.copy(draft);
        text.empty();
        life.start(trip.allThings());
        firstImage.forget();
        secondImage.forget();
        chooser.forget();
        return items;
    }

    public int thing(int i, int what) {
        if (!trip.hasThing(i) || what < 0 || what > STATE_NOW) {
            return BAD;
        }
        return what == STATE_NOW ? stateOf(life.how(), i) : trip.fact(i, what);
    }

    public int goes(int i, int j) {
        if (!trip.hasThing(i) || !trip.hasThing(j) || i == j) {
            return BAD;
        }
        return trip.together(i, j) ? 1 : 0;
    }

    public int day(int d, int what) {
        return trip.hasDay(d) && what >= 0 && what < WANTS ? trip.want(d, what) : BAD;
    }

    public int tune(int what, int v) {
        if (what < 0 || what >= TUNES || v < TUNE_LEAST[what] || v > TUNE_MOST[what]) {
            return BAD;
        }
        int was = tunes[what];
        tunes[what] = v;
        return was;
    }

    // ---- life

    public int packs(int set) {
        int was = life.set();
        life.start(set & trip.allThings());
        return was;
    }

    public int live(int top, int bottom, int wash, int rain) {
        if (!has(trip.tops(), top) || !has(trip.bottoms(), bottom) || !isBit(wash) || !isBit(rain)) {
            return BAD;
        }
        if (!life.mayWear(trip, top, bottom, wash)) {
            return STATE;
        }
        life.wear(trip, top, bottom, wash, rain);
        return life.date();
    }

    public int now(int what) {
        switch (what) {
            case 0: return life.date();
            case 1: return life.set();
            case 2: return life.fresh(trip);
            case 3: return life.isOver(trip) ? 1 : 0;
            default: return BAD;
        }
    }

    // ---- plans

    public int serves(int set, int weather) {
        return planner.find(set & trip.allThings(), weather) ? 1 : 0;
    }

    public int plan(int set, int weather, int d, int what) {
        if (!trip.hasDay(d) || what < 0 || what > 2) {
            return BAD;
        }
        if (!planner.find(set & trip.allThings(), weather)) {
            return NONE;
        }
        switch (what) {
            case 0: return planner.topOn(d);
            case 1: return planner.bottomOn(d);
            default: return planner.washOn(d);
        }
    }

    public int odds(int set) {
        return chooser.chances(set & trip.allThings());
    }

    public int least(int h, int what) {
        if (h < 0 || h > 1000 || !isBit(what)) {
            return BAD;
        }
        return chooser.smallest(10 * h, what == 0 ? WEIGHT : SIZE);
    }

    public int needless(int set, int weather, int what) {
        if (!isBit(what)) {
            return BAD;
        }
        int mine = set & trip.allThings();
        if (!planner.find(mine, weather)) {
            return STATE;
        }
        return what == 0 ? chooser.spares(mine, weather) : planner.neverOn(mine);
    }

    public int buy(int set, int weather, int what) {
        if (!isBit(what)) {
            return BAD;
        }
        int bought = chooser.purchase(set & trip.allThings(), weather);
        return bought < 0 || what == 0 ? bought : trip.sum(bought, PRICE);
    }

    public int desk(int set, int weather) {
        return chooser.takenOff(set & trip.allThings(), weather, tunes[LIMIT]);
    }

    public int pack(int set, int weather, int i) {
        int mine = set & trip.allThings();
        if (i != -1 && !has(mine, i)) {
            return BAD;
        }
        if (!planner.find(mine, weather)) {
            return STATE;
        }
        if (!packer.arrange(mine, tunes[LAYERS], tunes[DEEP])) {
            return NONE;
        }
        return i == -1 ? packer.trouble() : packer.layerOf(i);
    }

    public int allGo(int what) {
        if (!isBit(what)) {
            return BAD;
        }
        int best = chooser.largestMatch();
        return what == 0 ? best : Integer.bitCount(best);
    }

    public int again(int set) {
        return trip.days() == 0 ? STATE : planner.times(set & trip.allThings());
    }

    // ---- lists

    public int list(int had, int on) {
        if (had < 0 || had > 99 || on < 0 || on > had) {
            return BAD;
        }
        return lists.add(had, on) ? lists.size() : FULL;
    }

    public int span(int what) {
        if (what < 0 || what > 4) {
            return BAD;
        }
        if (what == 3) {
            return lists.wasteUpper();
        }
        if (what == 4) {
            return lists.wasteLower();
        }
        if (lists.size() == 0) {
            return NONE;
        }
        switch (what) {
            case 0: return lists.onAt(0);
            case 1: return lists.onAt(lists.size() - 1);
            default: return lists.onAt((lists.size() - 1) / 2);
        }
    }

    // ---- kinds, images

    public int use(int kind, int i) {
        if (!kinds.isKind(kind) || !trip.hasThing(i)) {
            return NO;
        }
        return kinds.ask(kind, i, stateOf(life.how(), i));
    }

    public int keep(int image) {
        if (!isBit(image)) {
            return BAD;
        }
        imageAt(image).copy(life);
        return life.date();
    }

    public int back(int image) {
        if (!isBit(image)) {
            return BAD;
        }
        Life kept = imageAt(image);
        if (!kept.isKept()) {
            return STATE;
        }
        life.copy(kept);
        return life.date();
    }

    public int count(int what) {
        switch (what) {
            case 0: return trip.things();
            case 1: return trip.days();
            case 2: return lists.size();
            case 3: return text.length();
            case 4: return trip.sum(life.set(), WEIGHT);
            case 5: return trip.sum(life.set(), SIZE);
            default: return BAD;
        }
    }

    public long trace() {
        return kinds.asked();
    }

    private Life imageAt(int image) {
        return image == 0 ? firstImage : secondImage;
    }

    private static boolean isBit(int number) {
        return number == 0 || number == 1;
    }

    private static boolean isUnsure(int rain) {
        return rain > 0 && rain < 10;
    }

    private static boolean has(int set, int i) {
        return i >= 0 && i < MOST_THINGS && (set >> i & 1) != 0;
    }

    /** How one thing is, out of how all are. */
    private static int stateOf(int how, int i) {
        return how >> 2 * i & 3;
    }

    /** THE TEXT. */
    private static final class Text {
        private static final int MOST = 500;
        private final byte[] bytes = new byte[MOST];
        private int length;

        int length() {
            return length;
        }

        boolean hasRoom(int more) {
            return length + more <= MOST;
        }

        void add(int value) {
            if (length >= 0 && length < MOST) {
                bytes[length] = (byte) value;
                length++;
            }
        }

        void empty() {
            length = 0;
        }

        /** The byte at a place (0 .. 255); -1 behind the end. */
        int at(int place) {
            return place >= 0 && place < length && place < MOST ? bytes[place] & 255 : -1;
        }
    }

    /** THE JOURNEY: things, which of them are apart, days. */
    private static final class Trip {
        // The low bit of the two that each thing has in how all are.
        private static final int LOW_BITS = 0x555;
        private final int[] facts = new int[MOST_THINGS * FACTS];
        private final int[] wants = new int[MOST_DAYS * WANTS];
        private final int[] apart = new int[MOST_THINGS];
        private int things;
        private int days;
        private int unsureDays;
        private int tops;
        private int bottoms;
        private int coats;
        private int lasting;
        private int lateLowBits;

        void empty() {
            Arrays.fill(facts, 0);
            Arrays.fill(wants, 0);
            Arrays.fill(apart, 0);
            things = 0;
            days = 0;
            unsureDays = 0;
            tops = 0;
            bottoms = 0;
            coats = 0;
            lasting = 0;
            lateLowBits = 0;
        }

        void copy(Trip other) {
            System.arraycopy(other.facts, 0, facts, 0, MOST_THINGS * FACTS);
            System.arraycopy(other.wants, 0, wants, 0, MOST_DAYS * WANTS);
            System.arraycopy(other.apart, 0, apart, 0, MOST_THINGS);
            things = other.things;
            days = other.days;
            unsureDays = other.unsureDays;
            tops = other.tops;
            bottoms = other.bottoms;
            coats = other.coats;
            lasting = other.lasting;
            lateLowBits = other.lateLowBits;
        }

        int things() {
            return things;
        }

        int days() {
            return days;
        }

        /** On how many days it rains perhaps, neither surely nor surely not. */
        int unsureDays() {
            return unsureDays;
        }

        int allThings() {
            return (1 << things) - 1;
        }

        int tops() {
            return tops;
        }

        int bottoms() {
            return bottoms;
        }

        int coats() {
            return coats;
        }

        boolean hasThing(int i) {
            return i >= 0 && i < things && i < MOST_THINGS;
        }

        boolean hasDay(int d) {
            return d >= 0 && d < days && d < MOST_DAYS;
        }

        boolean hasRoomForThing() {
            return things >= 0 && things < MOST_THINGS;
        }

        boolean hasRoomForDay() {
            return days >= 0 && days < MOST_DAYS;
        }

        /** Tells a fact of the thing that is being read; closeThing ends it. */
        void setFact(int what, int value) {
            if (hasRoomForThing() && what >= 0 && what < FACTS) {
                facts[things * FACTS + what] = value;
            }
        }

        void closeThing() {
            if (!hasRoomForThing()) {
                return;
            }
            int it = 1 << things;
            switch (facts[things * FACTS + KIND]) {
                case TOP:
                    tops |= it;
                    break;
                case BOTTOM:
                    bottoms |= it;
                    break;
                default:
                    coats |= it;
                    break;
            }
            if (facts[things * FACTS + LASTS] == 2) {
                lasting |= it;
            }
            if (facts[things * FACTS + LATE] != 0) {
                lateLowBits |= 1 << 2 * things;
            }
            things++;
        }

        /** Tells what the day that is being read wants; closeDay ends it. */
        void setWant(int what, int value) {
            if (hasRoomForDay() && what >= 0 && what < WANTS) {
                wants[days * WANTS + what] = value;
            }
        }

        void closeDay() {
            if (hasRoomForDay()) {
                if (isUnsure(wants[days * WANTS + DAY_RAIN])) {
                    unsureDays++;
                }
                days++;
            }
        }

        void setApart(int i, int j) {
            if (hasThing(i) && hasThing(j)) {
                apart[i] |= 1 << j;
                apart[j] |= 1 << i;
            }
        }

        int fact(int i, int what) {
            return hasThing(i) && what >= 0 && what < FACTS ? facts[i * FACTS + what] : 0;
        }

        int want(int d, int what) {
            return hasDay(d) && what >= 0 && what < WANTS ? wants[d * WANTS + what] : 0;
        }

        boolean together(int i, int j) {
            return hasThing(i) && hasThing(j) && (apart[i] >> j & 1) == 0;
        }

        int sum(int set, int what) {
            int sum = 0;
            for (int i = 0; i < things; i++) {
                if (has(set, i)) {
                    sum += fact(i, what);
                }
            }
            return sum;
        }

        int warmestCoat(int set) {
            int warmest = 0;
            for (int i = 0; i < things; i++) {
                if (has(set & coats, i)) {
                    warmest = Math.max(warmest, fact(i, WARM));
                }
            }
            return warmest;
        }

        /** Whether a top and a bottom, with a coat so warm, are what a day wants. */
        boolean suits(int d, int top, int bottom, int coatWarm) {
            int fine = want(d, DAY_FINE);
            return together(top, bottom)
                && fact(top, FINE) >= fine
                && fact(bottom, FINE) >= fine
                && fact(top, WARM) + fact(bottom, WARM) + coatWarm >= want(d, DAY_WARM);
        }

        boolean isReady(int how, int i) {
            int state = stateOf(how, i);
            return state == FRESH || state == WORN && has(lasting, i);
        }

        /** How all are the morning after a day and its night. */
        int morning(int how, int top, int bottom, boolean soaked, boolean washed) {
            int wetAtFirst = how & how >> 1 & LOW_BITS;
            int then = how & ~(3 * wetAtFirst);
            then = worn(then, top, soaked);
            then = worn(then, bottom, soaked);
            if (!washed) {
                return then;
            }
            // One of the two bits alone: worn once or dirty.
            int used = (then ^ then >> 1) & LOW_BITS;
            return then & ~(3 * used) | 3 * (used & lateLowBits);
        }

        private int worn(int how, int i, boolean soaked) {
            boolean lastsOn = (how >> 2 * i & 3) == FRESH && (lasting >> i & 1) != 0;
            int then = !lastsOn ? DIRTY : soaked ? WET : WORN;
            return how & ~(3 << 2 * i) | then << 2 * i;
        }
    }

    /** Reads a text into a trip: it is split into tokens, then these are taken one by one. */
    private static final class Reader {
        // The codes of the first three are the kinds of things as well.
        private static final int LATE_WORD = 3, APART_WORD = 4, DAY_WORD = 5, WASH_WORD = 6, RAIN_WORD = 7;
        private static final int END_OF_ITEM = 8, END = 9, WRONG = 10;
        // A number's code is this and the number.
        private static final int NUMBER = 100;
        private static final int MOST_NUMBER = 99, MOST_UNSURE_DAYS = 4, FIRST_FAULT = -10;
        private static final int MOST_TOKENS = Text.MOST;
        private final Text text;
        private final Trip trip;
        private final int[] codes = new int[MOST_TOKENS];
        private final int[] starts = new int[MOST_TOKENS];
        private int tokens;
        private int next;
        private int taken;

        Reader(Text fromText, Trip intoTrip) {
            text = fromText;
            trip = intoTrip;
        }

        /** How many items; -10 less the fault's place. */
        int read() {
            split();
            trip.empty();
            next = 0;
            int items = 0;
            while (!isNext(END) && items < MOST_TOKENS) {
                if (!readItem()) {
                    return FIRST_FAULT - startOfNext();
                }
                items++;
            }
            return items;
        }

        private void split() {
            tokens = 0;
            int place = 0;
            while (place < text.length()) {
                int end = Math.max(endOf(place), place + 1);
                if (text.at(place) != ' ') {
                    addToken(codeOf(place, end), place);
                }
                place = end;
            }
        }

        private void addToken(int code, int start) {
            if (tokens >= 0 && tokens < MOST_TOKENS) {
                codes[tokens] = code;
                starts[tokens] = start;
                tokens++;
            }
        }

        private int endOf(int start) {
            boolean digits = isDigit(text.at(start));
            boolean letters = isLetter(text.at(start));
            int end = start + 1;
            while (end < text.length() && (digits && isDigit(text.at(end)) || letters && isLetter(text.at(end)))) {
                end++;
            }
            return end;
        }

        private int codeOf(int start, int end) {
            if (isDigit(text.at(start))) {
                return numberCode(start, end);
            }
            if (isLetter(text.at(start))) {
                return wordCode(start, end);
            }
            return text.at(start) == ';' ? END_OF_ITEM : WRONG;
        }

        private int numberCode(int start, int end) {
            if (text.at(start) == '0' && end - start > 1) {
                return WRONG;
            }
            int number = 0;
            for (int place = start; place < end; place++) {
                number = Math.min(10 * number + text.at(place) - '0', MOST_NUMBER + 1);
            }
            return number > MOST_NUMBER ? WRONG : NUMBER + number;
        }

        private int wordCode(int start, int end) {
            if (isWord("top", start, end)) {
                return TOP;
            }
            if (isWord("bottom", start, end)) {
                return BOTTOM;
            }
            if (isWord("coat", start, end)) {
                return COAT;
            }
            if (isWord("late", start, end)) {
                return LATE_WORD;
            }
            if (isWord("apart", start, end)) {
                return APART_WORD;
            }
            if (isWord("day", start, end)) {
                return DAY_WORD;
            }
            if (isWord("wash", start, end)) {
                return WASH_WORD;
            }
            return isWord("rain", start, end) ? RAIN_WORD : WRONG;
        }

        private boolean isWord(String word, int start, int end) {
            if (end - start != word.length()) {
                return false;
            }
            for (int k = 0; k < word.length(); k++) {
                if (text.at(start + k) != word.charAt(k)) {
                    return false;
                }
            }
            return true;
        }

        private static boolean isDigit(int value) {
            return value >= '0' && value <= '9';
        }

        private static boolean isLetter(int value) {
            return value >= 'a' && value <= 'z';
        }

        private boolean readItem() {
            if (isNext(TOP) || isNext(BOTTOM)) {
                return readThing() && readClothes() && take(END_OF_ITEM) && closeThing();
            }
            if (isNext(COAT)) {
                return readThing() && take(END_OF_ITEM) && closeThing();
            }
            if (isNext(APART_WORD)) {
                return readApart() && take(END_OF_ITEM);
            }
            return isNext(DAY_WORD) && readDay() && take(END_OF_ITEM) && closeDay();
        }

        private boolean closeThing() {
            trip.closeThing();
            return true;
        }

        private boolean closeDay() {
            trip.closeDay();
            return true;
        }

        /** What tops, bottoms and coats have. */
        private boolean readThing() {
            if (!trip.hasRoomForThing()) {
                return false;
            }
            trip.setFact(KIND, codeOfNext());
            next++;
            return readFact(WARM, 0, 9) && readFact(FINE, 0, 9) && readFact(SIZE, 1, 99)
                && readFact(WEIGHT, 1, 99) && readFact(PRICE, 0, 99);
        }

        /** What tops and bottoms have besides. */
        private boolean readClothes() {
            if (!readFact(LASTS, 1, 2)) {
                return false;
            }
            trip.setFact(LATE, take(LATE_WORD) ? 1 : 0);
            return true;
        }

        private boolean readFact(int what, int least, int most) {
            if (!takeNumber(least, most)) {
                return false;
            }
            trip.setFact(what, taken);
            return true;
        }

        private boolean readApart() {
            next++;
            int last = trip.things() - 1;
            if (!takeNumber(0, last)) {
                return false;
            }
            int first = taken;
            if (isNext(NUMBER + first) || !takeNumber(0, last)) {
                return false;
            }
            trip.setApart(first, taken);
            return true;
        }

        private boolean readDay() {
            if (!trip.hasRoomForDay()) {
                return false;
            }
            next++;
            if (!readWant(DAY_WARM, 27) || !readWant(DAY_FINE, 9)) {
                return false;
            }
            trip.setWant(DAY_WASH, take(WASH_WORD) ? 1 : 0);
            return !take(RAIN_WORD) || readRain();
        }

        private boolean readRain() {
            boolean onceTooOften = isUnsure(codeOfNext() - NUMBER) && trip.unsureDays() >= MOST_UNSURE_DAYS;
            return !onceTooOften && readWant(DAY_RAIN, 10);
        }

        private boolean readWant(int what, int most) {
            if (!takeNumber(0, most)) {
                return false;
            }
            trip.setWant(what, taken);
            return true;
        }

        private boolean take(int code) {
            if (!isNext(code)) {
                return false;
            }
            next++;
            return true;
        }

        private boolean takeNumber(int least, int most) {
            int code = codeOfNext();
            if (code < NUMBER + least || code > NUMBER + most) {
                return false;
            }
            taken = code - NUMBER;
            next++;
            return true;
        }

        private boolean isNext(int code) {
            return codeOfNext() == code;
        }

        /** END behind the last token. */
        private int codeOfNext() {
            return next >= 0 && next < MOST_TOKENS && next < tokens ? codes[next] : END;
        }

        private int startOfNext() {
            return next >= 0 && next < MOST_TOKENS && next < tokens ? starts[next] : text.length();
        }
    }

    /** LIFE: the day, how all are, the set; an image of it, too. */
    private static final class Life {
        private int date;
        private int how;
        private int set;
        private boolean kept;

        int date() {
            return date;
        }

        int how() {
            return how;
        }

        int set() {
            return set;
        }

        boolean isKept() {
            return kept;
        }

        void forget() {
            kept = false;
        }

        void start(int newSet) {
            date = 0;
            how = 0;
            set = newSet;
        }

        void copy(Life other) {
            date = other.date;
            how = other.how;
            set = other.set;
            kept = true;
        }

        boolean isOver(Trip trip) {
            return date >= trip.days();
        }

        int fresh(Trip trip) {
            int fresh = 0;
            for (int i = 0; i < trip.things(); i++) {
                if (stateOf(how, i) == FRESH) {
                    fresh |= 1 << i;
                }
            }
            return fresh;
        }

        boolean mayWear(Trip trip, int top, int bottom, int wash) {
            return !isOver(trip)
                && wash <= trip.want(date, DAY_WASH)
                && has(set, top) && has(set, bottom)
                && trip.isReady(how, top) && trip.isReady(how, bottom)
                && trip.suits(date, top, bottom, trip.warmestCoat(set));
        }

        void wear(Trip trip, int top, int bottom, int wash, int rain) {
            boolean soaked = rain == 1 && (set & trip.coats()) == 0;
            how = trip.morning(how, top, bottom, soaked, wash == 1);
            date++;
        }
    }

    /** The first plan of a set in a weather, and how often the journey could be made again. */
    private static final class Planner {
        private static final int MOST_PAIRS = 9, MOST_TIMES = 9;
        private static final int HOWS = 1 << 2 * MOST_THINGS, WORDS = HOWS / 64;
        private final Trip trip;
        // A pair is its top times MOST_THINGS and its bottom; those of a day in the plans' order.
        private final int[] pairs = new int[MOST_DAYS * MOST_PAIRS];
        private final int[] pairsOn = new int[MOST_DAYS];
        private final int[] picked = new int[MOST_DAYS];
        private final int[] washed = new int[MOST_DAYS];
        // For each day a bit for how all are: from there the rest can't be lived.
        private final long[] failed = new long[MOST_DAYS * WORDS];
        private final long[] reached = new long[WORDS];
        private final long[] nextReached = new long[WORDS];
        // On which days what is worn gets wet.
        private int soaking;

        Planner(Trip ofTrip) {
            trip = ofTrip;
        }

        boolean find(int set, int weather) {
            prepare(set, weather);
            Arrays.fill(failed, 0L);
            return livesOn(0, 0);
        }

        int topOn(int d) {
            return isDay(d) ? picked[d] / MOST_THINGS : NONE;
        }

        int bottomOn(int d) {
            return isDay(d) ? picked[d] % MOST_THINGS : NONE;
        }

        int washOn(int d) {
            return isDay(d) ? washed[d] : NONE;
        }

        /** The day on which the plan that was found first has a thing on; -1: never. */
        int firstDayOf(int i) {
            for (int d = 0; d < trip.days(); d++) {
                if (topOn(d) == i || bottomOn(d) == i) {
                    return d;
                }
            }
            return -1;
        }

        int neverOn(int set) {
            int never = 0;
            for (int i = 0; i < trip.things(); i++) {
                if (has(set & ~trip.coats(), i) && firstDayOf(i) < 0) {
                    never |= 1 << i;
                }
            }
            return never;
        }

        /** How often the journey can be made in a row without rain. */
        int times(int set) {
            prepare(set, 0);
            Arrays.fill(reached, 0L);
            reached[0] = 1L;
            for (int time = 0; time < MOST_TIMES; time++) {
                for (int d = 0; d < trip.days(); d++) {
                    if (!reachNext(d)) {
                        return time;
                    }
                }
                // Who once comes home with all fresh can do so ever again.
                if ((reached[0] & 1L) != 0L) {
                    return MOST_TIMES;
                }
            }
            return MOST_TIMES;
        }

        private void prepare(int set, int weather) {
            soaking = (set & trip.coats()) == 0 ? weather : 0;
            int tops = set & trip.tops();
            int bottoms = set & trip.bottoms();
            int coatWarm = trip.warmestCoat(set);
            for (int d = 0; d < trip.days() && d < MOST_DAYS; d++) {
                int some = 0;
                for (int pair = 0; pair < MOST_THINGS * MOST_THINGS && some < MOST_PAIRS; pair++) {
                    int top = pair / MOST_THINGS;
                    int bottom = pair % MOST_THINGS;
                    if ((tops >> top & bottoms >> bottom & 1) != 0 && trip.suits(d, top, bottom, coatWarm)) {
                        pairs[d * MOST_PAIRS + some] = pair;
                        some++;
                    }
                }
                pairsOn[d] = some;
            }
        }

        private boolean isDay(int d) {
            return d >= 0 && d < MOST_DAYS;
        }

        /** Whether the days from one on can be lived; the first way stays as what is picked. */
        private boolean livesOn(int d, int how) {
            if (d >= trip.days()) {
                return true;
            }
            if (!isDay(d) || how < 0 || how >= HOWS) {
                return false;
            }
            int word = d * WORDS + how / 64;
            if ((failed[word] >> how % 64 & 1L) != 0L) {
                return false;
            }
            for (int k = 0; k < pairsOn[d] && k < MOST_PAIRS; k++) {
                if (livesOnWith(d, how, pairs[d * MOST_PAIRS + k])) {
                    return true;
                }
            }
            failed[word] |= 1L << how % 64;
            return false;
        }

        private boolean livesOnWith(int d, int how, int pair) {
            int top = pair / MOST_THINGS;
            int bottom = pair % MOST_THINGS;
            if (!isDay(d) || !trip.isReady(how, top) || !trip.isReady(how, bottom)) {
                return false;
            }
            boolean soaked = (soaking >> d & 1) != 0;
            picked[d] = pair;
            for (int wash = 0; wash <= trip.want(d, DAY_WASH); wash++) {
                washed[d] = wash;
                if (livesOn(d + 1, trip.morning(how, top, bottom, soaked, wash == 1))) {
                    return true;
                }
            }
            return false;
        }

        /** From all ways in which things can be on a day to all on the next; false: there is none. */
        private boolean reachNext(int d) {
            Arrays.fill(nextReached, 0L);
            boolean any = false;
            for (int word = 0; word < WORDS; word++) {
                for (int bit = 0; bit < 64 && reached[word] >>> bit != 0L; bit++) {
                    if ((reached[word] >> bit & 1L) != 0L && reachFrom(d, 64 * word + bit)) {
                        any = true;
                    }
                }
            }
            System.arraycopy(nextReached, 0, reached, 0, WORDS);
            return any;
        }

        private boolean reachFrom(int d, int how) {
            boolean any = false;
            for (int k = 0; isDay(d) && k < pairsOn[d] && k < MOST_PAIRS; k++) {
                int top = pairs[d * MOST_PAIRS + k] / MOST_THINGS;
                int bottom = pairs[d * MOST_PAIRS + k] % MOST_THINGS;
                if (trip.isReady(how, top) && trip.isReady(how, bottom)) {
                    any = true;
                    for (int wash = 0; wash <= trip.want(d, DAY_WASH); wash++) {
                        mark(trip.morning(how, top, bottom, false, wash == 1));
                    }
                }
            }
            return any;
        }

        private void mark(int how) {
            if (how >= 0 && how < HOWS) {
                nextReached[how / 64] |= 1L << how % 64;
            }
        }
    }

    /** What is best among all sets. */
    private static final class Chooser {
        private static final int ALL_CHANCES = 10000, UNKNOWN = -1;
        // Above every weight, size or price added.
        private static final int TOO_MUCH = 1000;
        private final Trip trip;
        private final Planner planner;
        // The chances of a set are worked out once for a journey.
        private final int[] known = new int[MOST_SETS];

        Chooser(Trip ofTrip, Planner withPlanner) {
            trip = ofTrip;
            planner = withPlanner;
            Arrays.fill(known, UNKNOWN);
        }

        /** For a new journey. */
        void forget() {
            Arrays.fill(known, UNKNOWN);
        }

        /** By how many of 10000 a set serves. */
        int chances(int set) {
            if (set < 0 || set >= MOST_SETS) {
                return 0;
            }
            if (known[set] != UNKNOWN) {
                return known[set];
            }
            int sum = 0;
            for (int weather = 0; weather < 1 << trip.days(); weather++) {
                int chance = chanceOf(weather);
                if (chance > 0 && planner.find(set, weather)) {
                    sum += chance;
                }
            }
            known[set] = sum;
            return sum;
        }

        /** No rest is lost: at most four days are unsure, and the others keep or void the whole. */
        private int chanceOf(int weather) {
            int chance = ALL_CHANCES;
            for (int d = 0; d < trip.days() && chance > 0; d++) {
                int rain = trip.want(d, DAY_RAIN);
                chance = chance * ((weather >> d & 1) != 0 ? rain : 10 - rain) / 10;
            }
            return chance;
        }

        /** The set with the least of a fact, added, whose chances are enough. */
        int smallest(int enough, int what) {
            int best = NONE;
            int least = TOO_MUCH;
            for (int set = 0; set <= trip.allThings(); set++) {
                int sum = trip.sum(set, what);
                if (sum < least && chances(set) >= enough) {
                    best = set;
                    least = sum;
                }
            }
            return best;
        }

        /** Those of a set without any one of which it still serves. */
        int spares(int set, int weather) {
            int spares = 0;
            for (int i = 0; i < trip.things(); i++) {
                if (has(set, i) && planner.find(set & ~(1 << i), weather)) {
                    spares |= 1 << i;
                }
            }
            return spares;
        }

        /** What is cheapest to add to a set so that it serves. */
        int purchase(int set, int weather) {
            int best = NONE;
            int least = TOO_MUCH;
            for (int more = 0; more <= trip.allThings(); more++) {
                int price = trip.sum(more, PRICE);
                if ((more & set) == 0 && price < least && planner.find(set | more, weather)) {
                    best = more;
                    least = price;
                }
            }
            return best;
        }

        /** The fewest to take off a set so that it is light enough and serves. */
        int takenOff(int set, int weather, int limit) {
            int best = NONE;
            int fewest = MOST_THINGS + 1;
            for (int off = 0; off <= trip.allThings(); off++) {
                int rest = set & ~off;
                boolean may = (off & ~set) == 0 && trip.sum(rest, WEIGHT) <= limit;
                if (may && Integer.bitCount(off) < fewest && planner.find(rest, weather)) {
                    best = off;
                    fewest = Integer.bitCount(off);
                }
            }
            return best;
        }

        /** The most things of which each two go together. */
        int largestMatch() {
            int best = 0;
            for (int set = 0; set <= trip.allThings(); set++) {
                if (Integer.bitCount(set) > Integer.bitCount(best) && allMatch(set)) {
                    best = set;
                }
            }
            return best;
        }

        private boolean allMatch(int set) {
            for (int i = 0; i < trip.things(); i++) {
                for (int j = 0; j < i; j++) {
                    if (has(set, i) && has(set, j) && !trip.together(i, j)) {
                        return false;
                    }
                }
            }
            return true;
        }
    }

    /** What lies in which layer. */
    private static final class Packer {
        private static final int MOST_LAYERS = 4, NEVER_ON = 99;
        // Above the trouble that all pairs can make.
        private static final int TOO_MUCH = 1000;
        private final Trip trip;
        private final Planner planner;
        private final int[] firstDay = new int[MOST_THINGS];
        private final int[] layer = new int[MOST_THINGS];
        private final int[] bestLayer = new int[MOST_THINGS];
        private final int[] room = new int[MOST_LAYERS];
        private int set;
        private int layers;
        private int leastTrouble;

        Packer(Trip ofTrip, Planner withPlanner) {
            trip = ofTrip;
            planner = withPlanner;
        }

        /** By the plan that the planner has found for the set; whether it goes in. */
        boolean arrange(int newSet, int newLayers, int deep) {
            set = newSet;
            layers = newLayers;
            leastTrouble = TOO_MUCH;
            Arrays.fill(room, deep);
            for (int i = 0; i < MOST_THINGS; i++) {
                int first = planner.firstDayOf(i);
                firstDay[i] = has(trip.coats(), i) ? 0 : first < 0 ? NEVER_ON : first;
            }
            lay(0, 0);
            return leastTrouble < TOO_MUCH;
        }

        int trouble() {
            return leastTrouble;
        }

        int layerOf(int i) {
            return i >= 0 && i < MOST_THINGS ? bestLayer[i] : NONE;
        }

        /** Lays one thing and all behind it in every way, the lower layers first. */
        private void lay(int i, int trouble) {
            if (trouble >= leastTrouble) {
                return;
            }
            if (i < 0 || i >= MOST_THINGS) {
                leastTrouble = trouble;
                System.arraycopy(layer, 0, bestLayer, 0, MOST_THINGS);
                return;
            }
            if (!has(set, i)) {
                lay(i + 1, trouble);
                return;
            }
            int size = trip.fact(i, SIZE);
            for (int k = 0; k < layers && k < MOST_LAYERS; k++) {
                if (room[k] >= size) {
                    layer[i] = k;
                    room[k] -= size;
                    lay(i + 1, trouble + troubleOf(i));
                    room[k] += size;
                }
            }
        }

        /** How many of those laid before make trouble with a thing. */
        private int troubleOf(int i) {
            int pairs = 0;
            for (int j = 0; j < i && i < MOST_THINGS; j++) {
                boolean over = layer[i] > layer[j] && firstDay[j] < firstDay[i];
                boolean under = layer[j] > layer[i] && firstDay[i] < firstDay[j];
                if (has(set, j) && (over || under)) {
                    pairs++;
                }
            }
            return pairs;
        }
    }

    /** LISTS of old journeys. */
    private static final class Lists {
        private static final int MOST = 20;
        // Sorted, the least first.
        private final int[] on = new int[MOST];
        private int size;
        private int allHad;
        private int allOn;

        int size() {
            return size;
        }

        boolean add(int had, int newOn) {
            if (size < 0 || size >= MOST) {
                return false;
            }
            int k = size;
            while (k > 0 && on[k - 1] > newOn) {
                on[k] = on[k - 1];
                k--;
            }
            on[k] = newOn;
            size++;
            allHad += had;
            allOn += newOn;
            return true;
        }

        int onAt(int k) {
            return k >= 0 && k < size && k < MOST ? on[k] : NONE;
        }

        int wasteUpper() {
            return lowered(allHad - allOn);
        }

        int wasteLower() {
            return Math.max(lowered(allHad), 1);
        }

        /** One of waste's two numbers in least terms. */
        private int lowered(int number) {
            for (int by = allHad; by > 1; by--) {
                if (allHad % by == 0 && allOn % by == 0) {
                    return number / by;
                }
            }
            return number;
        }
    }

    /** KINDS of things, each asking the one above it once; and THE TRACE of what was asked. */
    private static final class Kinds {
        private static final int THING = 0, ONCE = 1, SPARE = 2, DOUBLE = 3, BOUGHT = 4, SINGLE = 5;
        private final Trip trip;
        private long asked;

        Kinds(Trip ofTrip) {
            trip = ofTrip;
        }

        boolean isKind(int kind) {
            return kind >= THING && kind <= SINGLE;
        }

        long asked() {
            return asked;
        }

        int ask(int kind, int i, int state) {
            switch (kind) {
                case THING: return asThing(i);
                case ONCE: return asOnce(i);
                case SPARE: return asSpare(i);
                case DOUBLE: return asDouble(i);
                case BOUGHT: return asBought(i);
                case SINGLE: return asSingle(i, state);
                default: return NO;
            }
        }

        private int asThing(int i) {
            asked += 1;
            return trip.fact(i, WARM);
        }

        private int asOnce(int i) {
            asked += 10;
            return asThing(i) + trip.fact(i, FINE);
        }

        private int asSpare(int i) {
            asked += 100;
            return asThing(i) - trip.fact(i, WEIGHT);
        }

        private int asDouble(int i) {
            asked += 1000;
            return asOnce(i) * 2;
        }

        private int asBought(int i) {
            asked += 10000;
            return asSpare(i) + trip.fact(i, PRICE);
        }

        private int asSingle(int i, int state) {
            asked += 100000;
            return asThing(i) + state;
        }
    }
}
