/** The bounds of tunes, life, lists, kinds and images (promises 1, 8 to 11, 22 to 28): at, one below, one beyond. */
public final class LifeBoundTests extends Checks {
    private static final int[] TUNE_LEAST = {0, 1, 1}, TUNE_MOST = {999, 4, 999}, TUNE_FIRST = {200, 2, 100};

    // ---- a new object

    private static void newObject() {
        PackedCase x = new PackedCase();
        for (int what = 0; what < 6; what++) {
            due("count of nothing " + what, x.count(what), 0);
        }
        due("day", x.now(0), 0);
        due("set", x.now(1), 0);
        due("fresh", x.now(2), 0);
        due("over", x.now(3), 1);
        due("no thing", x.thing(0, 0), BAD);
        due("no two things", x.goes(0, 1), BAD);
        due("no day", x.day(0, 0), BAD);
        due("no top to live with", x.live(0, 0, 0, 0), BAD);
        due("packs what there is not", x.packs(-1), 0);
        due("is none", x.now(1), 0);
        due("all go: none", x.allGo(0), 0);
        due("all go: how many", x.allGo(1), 0);
        due("never, of none", x.needless(-1, -1, 1), 0);
        due("desk takes nothing", x.desk(-1, -1), 0);
        due("buys nothing", x.buy(-1, -1, 0), 0);
        due("for nothing", x.buy(-1, -1, 1), 0);
        due("packed without trouble", x.pack(-1, -1, -1), 0);
        due("no thing packed", x.pack(-1, -1, 0), BAD);
        due("no thing used", x.use(0, 0), NO);
        due("no image", x.back(0), STATE);
        due("keep 0", x.keep(0), 0);
        due("back 0", x.back(0), 0);
        for (int h : new int[] {0, 1, 999, 1000}) {
            due("none is needed", x.least(h, 0), 0);
            due("none is needed", x.least(h, 1), 0);
        }
    }

    // ---- tunes

    private static void tunes() {
        for (int what = 0; what < 3; what++) {
            PackedCase x = new PackedCase();
            int was = TUNE_FIRST[what];
            int[] may = {TUNE_LEAST[what], TUNE_LEAST[what] + 1, TUNE_MOST[what] - 1, TUNE_MOST[what], TUNE_MOST[what]};
            for (int v : may) {
                due("tune " + what + " below", x.tune(what, TUNE_LEAST[what] - 1), BAD);
                due("tune " + what + " beyond", x.tune(what, TUNE_MOST[what] + 1), BAD);
                due("tune " + what + " to " + v, x.tune(what, v), was);
                was = v;
            }
            for (int other = 0; other < 3; other++) {
                due("tune " + other, x.tune(other, TUNE_LEAST[other]), other == what ? was : TUNE_FIRST[other]);
            }
        }
    }

    // ---- the set

    private static void sets() {
        for (int n = 0; n <= 6; n++) {
            PackedCase x = of(COAT.repeat(n));
            int all = (1 << n) - 1;
            int[] sets = {0, 1 << n, all, all + 1, -1, 1 << n - 1 & all, Integer.MIN_VALUE, Integer.MAX_VALUE, ~all};
            int was = all;
            for (int set : sets) {
                due("packs " + set, x.packs(set), was);
                was = set & all;
                due("the set then", x.now(1), was);
                due("its weight", x.count(4), Integer.bitCount(was));
                due("its size", x.count(5), Integer.bitCount(was));
                due("all fresh", x.now(2), all);
            }
        }
        PackedCase x = of("coat 9 9 99 98 99;".repeat(6));
        due("the greatest weight", x.count(4), 588);
        due("the greatest size", x.count(5), 594);
        x.packs(0b100000);
        due("the last one's weight", x.count(4), 98);
        due("the last one's size", x.count(5), 99);
    }

    // ---- a day

    /** What may be on: WARM and FINE as wanted at least, no less; of the coats the warmest alone. */
    private static void warmAndFine() {
        String things = "top 3 5 1 1 0 2;bottom 4 6 1 1 0 2;coat 1 0 1 1 0;coat 2 0 1 1 0;";
        lives(things + "day 8 5;", 0, 1, 1);
        lives(things + "day 9 5;", 0, 1, 1);
        lives(things + "day 10 5;", 0, 1, STATE);
        lives(things + "day 0 4;", 0, 1, 1);
        lives(things + "day 0 6;", 0, 1, STATE);
        lives("bottom 3 5 1 1 0 2;top 4 6 1 1 0 2;" + "day 7 5;", 1, 0, 1);
        lives("bottom 3 5 1 1 0 2;top 4 6 1 1 0 2;" + "day 8 5;", 1, 0, STATE);
        lives("bottom 3 5 1 1 0 2;top 4 6 1 1 0 2;" + "day 7 6;", 1, 0, STATE);
        String warmest = "top 9 9 1 1 0 2;bottom 9 9 1 1 0 2;coat 9 0 1 1 0;";
        lives(warmest + "day 26 9;", 0, 1, 1);
        lives(warmest + "day 27 9;", 0, 1, 1);
        lives("top 9 9 1 1 0 2;bottom 9 9 1 1 0 2;coat 8 0 1 1 0;day 27 9;", 0, 1, STATE);
        lives("top 9 9 1 1 0 2;bottom 9 9 1 1 0 2;day 18 9;", 0, 1, 1);
        lives("top 9 9 1 1 0 2;bottom 9 9 1 1 0 2;day 19 9;", 0, 1, STATE);
        lives("coat 9 0 1 1 0;coat 0 0 1 1 0;top 0 0 1 1 0 1;bottom 0 0 1 1 0 1;day 9 0;", 2, 3, 1);
        lives("coat 0 0 1 1 0;top 0 0 1 1 0 1;bottom 0 0 1 1 0 1;coat 0 0 1 1 0;coat 0 0 1 1 0;coat 9 0 1 1 0;day 9 0;", 1, 2, 1);
        lives("top 9 8 1 1 0 2;bottom 9 9 1 1 0 2;day 0 9;", 0, 1, STATE);
        lives("top 9 9 1 1 0 2;bottom 9 8 1 1 0 2;day 0 9;", 0, 1, STATE);
        lives("top 0 0 1 1 0 1;bottom 0 0 1 1 0 1;day 0 0;", 0, 1, 1);
        lives("top 0 0 1 1 0 1;bottom 0 0 1 1 0 1;day 1 0;", 0, 1, STATE);
        lives("top 0 0 1 1 0 1;bottom 0 0 1 1 0 1;day 0 1;", 0, 1, STATE);
        PackedCase x = of("top 3 5 1 1 0 2;bottom 4 6 1 1 0 2;coat 1 0 1 1 0;coat 2 0 1 1 0;day 9 5;");
        x.packs(0b0111);
        due("the warmest coat at home", x.live(0, 1, 0, 0), STATE);
        x.packs(0b1011);
        due("the other at home", x.live(0, 1, 0, 0), 1);
    }

    private static void lives(String text, int top, int bottom, int answer) {
        PackedCase x = of(text);
        int set = x.now(1);
        due("live in " + text, x.live(top, bottom, 0, 0), answer);
        due("day then", x.now(0), answer == STATE ? 0 : 1);
        due("serves in " + text, x.serves(set, 0), answer == STATE ? 0 : 1);
        due("plan in " + text, x.plan(set, 0, 0, 0), answer == STATE ? NONE : top);
    }

    /** Fresh, worn once, dirty, wet: for things that last 1 and 2 days, soon dry and late. */
    private static void lasting() {
        PackedCase x = of("top 0 0 1 1 0 1;bottom 0 0 1 1 0 2;bottom 0 0 1 1 0 1;top 0 0 1 1 0 2;" + DAY.repeat(4));
        due("the first day", x.live(0, 1, 0, 0), 1);
        due("lasts 1: dirty", x.thing(0, 8), 2);
        due("lasts 2: worn once", x.thing(1, 8), 1);
        due("a day more is too much for 1", x.live(0, 1, 0, 0), STATE);
        due("not for 2", x.live(3, 1, 0, 0), 2);
        due("lasts 2: dirty", x.thing(1, 8), 2);
        due("two days more are too much for 2", x.live(3, 1, 0, 0), STATE);
        due("the third day", x.live(3, 2, 0, 0), 3);
        due("nothing is left", x.live(3, 2, 0, 0), STATE);
        due("nothing is left", x.live(3, 1, 0, 0), STATE);
        due("none fresh", x.now(2), 0);
        due("not over", x.now(3), 0);
    }

    private static void drying() {
        PackedCase x = of("top 0 0 1 1 0 2;top 0 0 1 1 0 2 late;bottom 0 0 1 1 0 1;bottom 0 0 1 1 0 1 late;top 0 0 1 1 0 1 late;"
            + "day 0 0 wash;day 0 0;day 0 0;day 0 0 wash;day 0 0 wash;");
        due("worn and washed", x.live(1, 3, 1, 0), 1);
        due("late: wet a day", x.thing(1, 8), 3);
        due("late: wet a day", x.thing(3, 8), 3);
        due("what was not worn stays fresh", x.now(2), 0b10101);
        due("wash where one can't", x.live(0, 2, 1, 0), STATE);
        due("wet can't be on", x.live(1, 2, 0, 0), STATE);
        due("a day more", x.live(0, 2, 0, 0), 2);
        due("dry", x.now(2), 0b11010);
        due("worn once", x.thing(0, 8), 1);
        due("worn once, and fresh", x.live(0, 3, 0, 0), 3);
        due("last ones", x.now(2), 0b10010);
        due("nothing worn may be on", x.live(1, 2, 1, 0), STATE);
        due("nor dirty", x.live(1, 3, 1, 0), STATE);
        x.packs(0b11111);
        due("washing or not", x.live(1, 3, 0, 0), 1);
        due("worn once", x.thing(1, 8), 1);
        due("dirty", x.thing(3, 8), 2);
        due("rain", x.live(1, 2, 0, 1), 2);
        due("dirty does not get wet", x.thing(1, 8), 2);
    }

    private static void rain() {
        String things = TOP_FOR_2 + BOTTOM_FOR_2 + "top 0 0 1 1 0 1 late;bottom 0 0 1 1 0 2 late;" + COAT;
        String days = "day 0 0 wash;day 0 0 wash rain 10;day 0 0;";
        for (int coat = 0; coat < 2; coat++) {
            for (int wet = 0; wet < 2; wet++) {
                for (int wash = 0; wash < 2; wash++) {
                    PackedCase x = of(things + days);
                    x.packs(0b1111 + 16 * coat);
                    due("live", x.live(0, 3, wash, wet), 1);
                    boolean soaked = wet == 1 && coat == 0;
                    due("soon dry " + coat + wet + wash, x.thing(0, 8), soaked ? 3 : wash == 1 ? 0 : 1);
                    due("late dry " + coat + wet + wash, x.thing(3, 8), soaked || wash == 1 ? 3 : 1);
                    x.packs(0b1111 + 16 * coat);
                    due("live", x.live(2, 1, wash, wet), 1);
                    due("dirty, late " + coat + wet + wash, x.thing(2, 8), wash == 1 ? 3 : 2);
                    due("coat", x.thing(4, 8), 0);
                }
            }
        }
    }

    /** The journey's last day, and one more. */
    private static void over() {
        for (int n = 0; n <= 8; n++) {
            PackedCase x = of("top 0 0 1 1 0 1;bottom 0 0 1 1 0 1;" + "day 0 0 wash;".repeat(n));
            for (int d = 0; d < n; d++) {
                due("over on day " + d + " of " + n, x.now(3), 0);
                due("live day " + d + " of " + n, x.live(0, 1, 1, 0), d + 1);
            }
            due("over", x.now(3), 1);
            due("the day", x.now(0), n);
            due("live when it is over", x.live(0, 1, 0, 0), STATE);
            due("wrong when it is over", x.live(1, 0, 0, 0), BAD);
            due("the day stays", x.now(0), n);
            x.packs(-1);
            due("anew", x.now(3), n == 0 ? 1 : 0);
        }
    }

    // ---- lists

    private static void twentyLists() {
        PackedCase x = new PackedCase();
        for (int k = 1; k <= 20; k++) {
            due("lists before " + k, x.count(2), k - 1);
            due("list " + k, x.list(k, k), k);
            due("least of " + k, x.span(0), 1);
            due("greatest of " + k, x.span(1), k);
            due("middle of " + k, x.span(2), (k + 1) / 2);
        }
        due("a list more", x.list(99, 99), FULL);
        due("a wrong one more", x.list(99, 100), BAD);
        due("twenty", x.count(2), 20);
        due("greatest still", x.span(1), 20);
        due("middle still", x.span(2), 10);
        PackedCase y = new PackedCase();
        for (int k = 20; k >= 1; k--) {
            y.list(99, k);
            due("least, the greatest first", y.span(0), k);
            due("greatest, the greatest first", y.span(1), 20);
            due("middle, the greatest first", y.span(2), (k + 20) / 2);
        }
    }

    private static void numbersOfLists() {
        PackedCase x = new PackedCase();
        due("had 0", x.list(0, 0), 1);
        due("had 0, on 1", x.list(0, 1), BAD);
        due("had 1, on 0", x.list(1, 0), 2);
        due("had 1, on 1", x.list(1, 1), 3);
        due("had 1, on 2", x.list(1, 2), BAD);
        due("had 98, on 98", x.list(98, 98), 4);
        due("had 98, on 99", x.list(98, 99), BAD);
        due("had 99, on 98", x.list(99, 98), 5);
        due("had 99, on 99", x.list(99, 99), 6);
        due("had 99, on 100", x.list(99, 100), BAD);
        due("had 100, on 0", x.list(100, 0), BAD);
        due("had 100, on 99", x.list(100, 99), BAD);
        due("had 0, on -1", x.list(0, -1), BAD);
        due("had -1, on -1", x.list(-1, -1), BAD);
        due("six came", x.count(2), 6);
        due("greatest", x.span(1), 99);
    }

    private static void waste(String lists, int upper, int lower) {
        PackedCase x = new PackedCase();
        for (String one : lists.split(";")) {
            x.list(Integer.parseInt(one.split(" ")[0]), Integer.parseInt(one.split(" ")[1]));
        }
        due("waste of " + lists, x.span(3), upper);
        due("waste's lower number of " + lists, x.span(4), lower);
    }

    private static void wastes() {
        waste("0 0", 0, 1);
        waste("0 0;0 0", 0, 1);
        waste("1 1", 0, 1);
        waste("1 0", 1, 1);
        waste("2 1", 1, 2);
        waste("4 2", 1, 2);
        waste("4 1;4 3", 1, 2);
        waste("99 0", 1, 1);
        waste("99 99", 0, 1);
        waste("99 98", 1, 99);
        waste("99 1", 98, 99);
        waste("99 33", 2, 3);
        waste("98 49;0 0", 1, 2);
        waste("7 5;7 4", 5, 14);
        waste("6 4;3 2", 1, 3);
        waste("99 0;".repeat(20), 1, 1);
        waste("99 99;".repeat(20), 0, 1);
        waste("99 99;".repeat(19) + "99 98", 1, 1980);
        waste("99 0;".repeat(19) + "98 1", 1978, 1979);
        waste("99 9;".repeat(20), 10, 11);
    }

    private static void noLists() {
        PackedCase x = new PackedCase();
        for (int what = -1; what <= 5; what++) {
            due("span " + what + " of none", x.span(what), what < 0 || what > 4 ? BAD : what < 3 ? NONE : what - 3);
        }
        x.list(7, 3);
        for (int what = -1; what <= 5; what++) {
            due("span " + what + " of one", x.span(what), what < 0 || what > 4 ? BAD : what < 3 ? 3 : what == 3 ? 4 : 7);
        }
    }

    // ---- kinds and THE TRACE

    private static void kinds() {
        PackedCase x = of("top 0 0 1 99 0 2;bottom 9 9 1 1 99 2;coat 9 9 99 99 99;" + DAY);
        int[][] used = {{0, 0, -99, 0, -99, 0}, {9, 18, 8, 36, 107, 9}, {9, 18, -90, 36, 9, 9}};
        long[] asked = {1, 11, 101, 1011, 10101, 100001};
        long trace = 0;
        due("trace at first", x.trace(), 0);
        for (int i = 0; i < 3; i++) {
            for (int kind = 0; kind <= 5; kind++) {
                due("use " + kind + " of " + i, x.use(kind, i), used[i][kind]);
                trace += asked[kind];
                due("trace", x.trace(), trace);
            }
        }
        for (int wrong : new int[] {-1, 6}) {
            due("use kind " + wrong, x.use(wrong, 0), NO);
            due("use of " + (wrong < 0 ? -1 : 3), x.use(0, wrong < 0 ? -1 : 3), NO);
        }
        due("trace stays", x.trace(), trace);
        due("trace asked again", x.trace(), trace);
        due("another object's trace", new PackedCase().trace(), 0);
    }

    /** SINGLE of a thing fresh, worn once, dirty, wet; and of a coat. */
    private static void singles() {
        PackedCase x = of("top 3 0 1 1 0 2;bottom 4 0 1 1 0 2;coat 5 0 1 1 0;day 0 0;day 0 0;day 0 0;");
        due("fresh", x.use(5, 0), 3);
        x.packs(3);
        x.live(0, 1, 0, 0);
        due("worn once", x.use(5, 0), 4);
        x.live(0, 1, 0, 0);
        due("dirty", x.use(5, 0), 5);
        due("dirty", x.use(5, 1), 6);
        x.packs(3);
        x.live(0, 1, 0, 1);
        due("wet", x.use(5, 0), 6);
        due("coat", x.use(5, 2), 5);
        due("trace", x.trace(), 600006);
    }

    /** What is promised holds up to an object's 512th call. */
    private static void lastCall() {
        PackedCase x = new PackedCase();
        x.type(0x636F617420302030L, 8);
        x.type(0x203120312030203BL, 8);
        due("the third call", x.journey(), 1);
        for (int call = 4; call < 512; call++) {
            due("call " + call, x.use(5, 0), 0);
        }
        due("the 512th call", x.trace(), 508 * 100001L);
    }

    // ---- images

    private static void images() {
        PackedCase x = of(TOP_FOR_2 + BOTTOM_FOR_2 + TOP_FOR_2 + BOTTOM_FOR_2 + DAY.repeat(3));
        due("back 0, none kept", x.back(0), STATE);
        x.packs(7);
        x.live(0, 1, 0, 0);
        due("keep 1", x.keep(1), 1);
        due("back 0, 1 kept", x.back(0), STATE);
        x.packs(15);
        x.live(0, 1, 0, 0);
        x.live(0, 1, 0, 1);
        due("keep 0", x.keep(0), 2);
        x.packs(12);
        due("back 1", x.back(1), 1);
        due("its set", x.now(1), 7);
        due("its fresh ones", x.now(2), 12);
        due("its things", x.thing(1, 8), 1);
        due("back 1 once more", x.back(1), 1);
        due("back 0", x.back(0), 2);
        due("its set", x.now(1), 15);
        due("its things", x.thing(1, 8), 2);
        due("live on", x.live(2, 3, 0, 0), 3);
        due("the image stays", x.back(0), 2);
        due("not over there", x.now(3), 0);
        due("fresh there", x.now(2), 12);
        due("keep 1 in its place", x.keep(1), 2);
        due("back 1 is another", x.back(1), 2);
        imagesAndTheJourney(x);
    }

    private static void imagesAndTheJourney(PackedCase x) {
        type(x, "x");
        due("a fault", x.journey(), -10);
        due("image 0 stays", x.back(0), 2);
        due("the text is none of it", x.count(3), 1);
        due("nor are the days", x.count(1), 3);
        due("image 1 stays", x.back(1), 2);
        x.clear();
        due("image 0 stays", x.back(0), 2);
        x.tune(0, 5);
        x.list(9, 4);
        x.use(1, 0);
        read(x, TOP + BOTTOM + DAY);
        due("image 0 is gone", x.back(0), STATE);
        due("image 1 is gone", x.back(1), STATE);
        due("day 0", x.now(0), 0);
        due("the set is all", x.now(1), 3);
        due("all fresh", x.now(2), 3);
        due("lists stay", x.span(2), 4);
        due("tunes stay", x.tune(0, 5), 5);
        due("the trace stays", x.trace(), 11);
        due("keep 0 anew", x.keep(0), 0);
        due("image 1 is gone still", x.back(1), STATE);
    }

    public static void main(String[] args) {
        newObject();
        tunes();
        sets();
        warmAndFine();
        lasting();
        drying();
        rain();
        over();
        twentyLists();
        numbersOfLists();
        wastes();
        noLists();
        kinds();
        singles();
        lastCall();
        images();
        end("bounds of life");
    }
}
