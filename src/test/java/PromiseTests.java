/** For each promise of the document ordinary calls, the edges it names, and wrong ones. */
public final class PromiseTests extends Checks {
    private static void promise1() {
        PackedCase x = new PackedCase();
        for (int what = 0; what < 6; what++) {
            due("new count " + what, x.count(what), 0);
        }
        due("new now 0", x.now(0), 0);
        due("new now 1", x.now(1), 0);
        due("new now 2", x.now(2), 0);
        due("new now 3", x.now(3), 1);
        due("new trace", x.trace(), 0);
        due("new serves", x.serves(-1, -1), 1);
        due("new odds", x.odds(-1), 10000);
        due("new least", x.least(1000, 1), 0);
        due("new needless", x.needless(63, 0, 0), 0);
        due("new never", x.needless(63, 0, 1), 0);
        due("new buy", x.buy(0, 0, 0), 0);
        due("new desk", x.desk(0, 0), 0);
        due("new pack", x.pack(0, 0, -1), 0);
        due("new allGo", x.allGo(1), 0);
        due("new again", x.again(0), STATE);
        due("new limit", x.tune(0, 200), 200);
        due("new layers", x.tune(1, 2), 2);
        due("new deep", x.tune(2, 100), 100);
        due("constant BAD", BAD, -1);
        due("constant STATE", STATE, -2);
        due("constant FULL", FULL, -3);
        due("constant NONE", NONE, -9);
        due("constant NO", NO, -1000000);
    }

    private static void promise2() {
        PackedCase x = new PackedCase();
        due("type 0", x.type(65, 0), BAD);
        due("type 9", x.type(65, 9), BAD);
        due("type -1", x.type(65, -1), BAD);
        due("type one", x.type(0x3000000000000064L, 1), 1);
        due("type the highest first", x.type(0x61792030203B203BL >>> 16, 6), 7);
        due("journey typed", x.journey(), -10 - 6);
        x.clear();
        due("type eight", x.type(0x6461792031203220L, 8), 8);
        due("type the end", x.type(';', 1), 9);
        due("journey of eight and one", x.journey(), 1);
        due("its fine", x.day(0, 1), 2);
        for (int k = 1; k <= 62; k++) {
            due("type to the brim", x.type(0x2020202020202020L, 8), 8 * k);
        }
        due("type beyond", x.type(0, 5), FULL);
        due("type beyond, wrong too", x.type(0, 9), BAD);
        due("nothing came", x.count(3), 496);
        due("type to the last", x.type(0x20202020, 4), 500);
        due("type one more", x.type(32, 1), FULL);
        due("journey of blanks", x.journey(), 0);
        due("negative v", x.type(-1L, 8), 8);
        due("bytes above all", x.journey(), -10);
    }

    private static void promise3() {
        PackedCase x = new PackedCase();
        due("clear nothing", x.clear(), 0);
        type(x, "day 0 0;");
        due("clear eight", x.clear(), 8);
        due("clear again", x.clear(), 0);
        due("journey of nothing", x.journey(), 0);
        due("no days", x.count(1), 0);
    }

    private static void promise4() {
        items("", 0);
        items("   ", 0);
        items("  day  0  0  ;  ", 1);
        items("day0 0wash rain5;day0 0;", 2);
        items("top1 2 3 4 5 1late;bottom1 2 3 4 5 2;coat1 2 3 4 5;apart0 2;apart 0 1;apart 1 0;", 6);
        items("top 9 9 99 99 99 2;day 27 9 rain 10;day 0 0 rain 0;", 3);
        items("day 0 0 rain 1;day 0 0 rain 9;day 0 0 rain 5;day 0 0 rain 5;day 0 0 rain 0;day 0 0 rain 10;", 6);
        fault("top", 3);
        fault("top ", 4);
        fault("top 10 0 1 1 0 1;", 4);
        fault("top 0 10 1 1 0 1;", 6);
        fault("top 0 0 0 1 0 1;", 8);
        fault("top 0 0 1 0 0 1;", 10);
        fault("top 0 0 1 1 0 0;", 14);
        fault("top 0 0 1 1 0 3;", 14);
        fault("top 0 0 1 1 0;", 13);
        fault("top 0 0 100 1 0 1;", 8);
        fault("top 0 0 1 1 100 1;", 12);
        fault("top 0 0 1 1 0 1 late late;", 21);
        fault("top 0 0 1 1 0 1 late", 20);
        fault("top 0 0 1 1 0 1 wash;", 16);
        fault("coat 0 0 1 1 0 1;", 15);
        fault("coat 0 0 1 1 0 late;", 15);
        fault("apart 0 1;", 6);
        fault("top 0 0 1 1 0 1;apart 0 0;", 24);
        fault("top 0 0 1 1 0 1;apart 0 1;", 24);
        fault("top 0 0 1 1 0 1;apart 0", 23);
        fault("top 0 0 1 1 0 1;apart 0 ;", 24);
        fault("top 0 0 1 1 0 1;apart ;", 22);
        fault("day 28 0;", 4);
        fault("day 0 10;", 6);
        fault("day 0 0 rain;", 12);
        fault("day 0 0 rain 11;", 13);
        fault("day 0 0 rain 5 wash;", 15);
        fault("day 0 0 wash wash;", 13);
        fault("day 0 00;", 6);
        fault("day 0 01;", 6);
        fault("day 0 000000000000000000000000;", 6);
        fault("day 0 4294967296;", 6);
        fault("day 0 0;;", 8);
        fault("day 0 0 day 0 0;", 8);
        fault("day 0,0;", 5);
        fault("days 0 0;", 0);
        fault("da y 0 0;", 0);
        fault("dayz 0 0;", 0);
        fault("aday 0 0;", 0);
        fault("day" + (char) 123 + "0 0;", 3);
        fault("day" + (char) 96 + "0 0;", 3);
        fault("day 0" + (char) 58 + "0;", 5);
        fault("day 0" + (char) 47 + "0;", 5);
        fault("Day 0 0;", 0);
        fault("da" + (char) 200 + ";", 0);
        fault("day" + (char) 10 + "0 0;", 3);
        fault(" late;", 1);
        fault(" 5;", 1);
        fault(";", 0);
        fault("day 0 0", 7);
        fault("day 0 0  ", 9);
        fault("top 0 0 1 1 0 1;".repeat(6) + "bottom 0 0 1 1 0 1;", 96);
        fault("day 0 0;".repeat(8) + "day 0 0;", 64);
        fault("day 0 0 rain 5;".repeat(4) + "day 0 0 rain 1;", 73);
        fault("day 0 0 rain 5;".repeat(4) + "day 0 0 rain 12;", 73);
        anew();
    }

    /** A journey read anew: all fresh, day 0, the set is all, images are gone; the rest stays. */
    private static void anew() {
        PackedCase x = of("top 0 0 1 1 0 1;bottom 0 0 1 1 0 1;day 0 0;apart 0 1;");
        x.list(5, 3);
        x.tune(0, 7);
        x.use(0, 0);
        x.keep(0);
        x.packs(1);
        type(x, "top 1 1 1 1 1 1;bottom 0 0 1 1 0 2;day 0 0;day");
        due("fault behind whole items", x.journey(), -10 - 46);
        due("still apart", x.goes(0, 1), 0);
        due("still one day", x.count(1), 1);
        due("still its set", x.now(1), 1);
        due("still its warm", x.thing(0, 1), 0);
        x.clear();
        type(x, "top 1 1 1 1 1 2;bottom 0 0 1 1 0 2;coat 0 0 1 1 0;day 0 0;");
        due("anew", x.journey(), 4);
        due("anew the set", x.now(1), 7);
        due("anew together", x.goes(0, 1), 1);
        due("anew the image", x.back(0), STATE);
        due("anew lists", x.count(2), 1);
        due("anew trace", x.trace(), 1);
        due("anew tune", x.tune(0, 8), 7);
        due("anew odds", x.odds(7), 10000);
        x.live(0, 1, 0, 0);
        type(x, "top 1 1 1 1 1 1;day 0 0;");
        due("anew again", x.journey(), 2);
        due("anew day", x.now(0), 0);
        due("anew fresh", x.thing(0, 8), 0);
        due("anew odds too", x.odds(1), 0);
    }

    private static void promise5() {
        PackedCase x = of("coat 1 2 3 4 5;bottom 6 7 8 9 10 2 late;top 0 9 99 98 97 1;day 0 0;");
        int[][] facts = {{2, 1, 2, 3, 4, 5, 0, 0, 0}, {1, 6, 7, 8, 9, 10, 2, 1, 0}, {0, 0, 9, 99, 98, 97, 1, 0, 0}};
        for (int i = 0; i < 3; i++) {
            for (int what = 0; what < 9; what++) {
                due("thing(" + i + ", " + what + ")", x.thing(i, what), facts[i][what]);
            }
        }
        due("thing -1", x.thing(-1, 0), BAD);
        due("thing 3", x.thing(3, 0), BAD);
        due("thing 2^31 - 1", x.thing(Integer.MAX_VALUE, 0), BAD);
        due("thing what -1", x.thing(0, -1), BAD);
        due("thing what 9", x.thing(0, 9), BAD);
        x.live(2, 1, 0, 0);
        due("dirty", x.thing(2, 8), 2);
        due("worn once", x.thing(1, 8), 1);
        due("coats are fresh", x.thing(0, 8), 0);
    }

    private static void promise6() {
        PackedCase x = of("top 0 0 1 1 0 1;bottom 0 0 1 1 0 1;coat 0 0 1 1 0;apart 2 0;");
        due("goes 0 1", x.goes(0, 1), 1);
        due("goes 0 2", x.goes(0, 2), 0);
        due("goes 2 0", x.goes(2, 0), 0);
        due("goes 2 1", x.goes(2, 1), 1);
        due("goes one and the same", x.goes(1, 1), BAD);
        due("goes 3", x.goes(0, 3), BAD);
        due("goes -1", x.goes(-1, 0), BAD);
    }

    private static void promise7() {
        PackedCase x = of("day 27 9 wash rain 10;day 1 2;day 3 4 rain 5;day 0 0 wash;");
        int[][] wants = {{27, 9, 1, 10}, {1, 2, 0, 0}, {3, 4, 0, 5}, {0, 0, 1, 0}};
        for (int d = 0; d < 4; d++) {
            for (int what = 0; what < 4; what++) {
                due("day(" + d + ", " + what + ")", x.day(d, what), wants[d][what]);
            }
        }
        due("day 4", x.day(4, 0), BAD);
        due("day -1", x.day(-1, 0), BAD);
        due("day what 4", x.day(0, 4), BAD);
        due("day what -1", x.day(0, -1), BAD);
    }

    private static void promise8() {
        PackedCase x = new PackedCase();
        due("tune 0 to 0", x.tune(0, 0), 200);
        due("tune 0 to 999", x.tune(0, 999), 0);
        due("tune 0 to 1000", x.tune(0, 1000), BAD);
        due("tune 0 to -1", x.tune(0, -1), BAD);
        due("tune 0 stays", x.tune(0, 5), 999);
        due("tune 1 to 0", x.tune(1, 0), BAD);
        due("tune 1 to 5", x.tune(1, 5), BAD);
        due("tune 1 to 4", x.tune(1, 4), 2);
        due("tune 1 to 1", x.tune(1, 1), 4);
        due("tune 2 to 0", x.tune(2, 0), BAD);
        due("tune 2 to 1000", x.tune(2, 1000), BAD);
        due("tune 2 to 999", x.tune(2, 999), 100);
        due("tune 2 to 1", x.tune(2, 1), 999);
        due("tune 3", x.tune(3, 1), BAD);
        due("tune -1", x.tune(-1, 1), BAD);
    }

    private static void promise9() {
        PackedCase x = of("top 0 0 1 1 0 1;bottom 0 0 1 1 0 1;top 0 0 1 1 0 1;day 0 0;day 0 0;");
        x.live(0, 1, 0, 0);
        due("packs 6", x.packs(6), 7);
        due("day 0 again", x.now(0), 0);
        due("all fresh", x.now(2), 7);
        due("fresh", x.thing(0, 8), 0);
        due("packs what there is not", x.packs(8 + 4), 6);
        due("left out", x.now(1), 4);
        due("packs none", x.packs(0), 4);
        due("packs all", x.packs(-1), 0);
        due("all", x.now(1), 7);
    }

    private static void promise10() {
        PackedCase x = of("top 4 5 1 1 0 2;bottom 3 5 1 1 0 1 late;bottom 9 9 1 1 0 2 late;coat 2 0 1 1 0;coat 1 0 1 1 0;"
            + "top 9 4 1 1 0 1;day 9 5 wash;day 0 0 wash;day 0 0;day 10 5 wash;");
        due("a bottom as top", x.live(1, 2, 0, 0), BAD);
        due("a coat as top", x.live(3, 2, 0, 0), BAD);
        due("a top as bottom", x.live(0, 5, 0, 0), BAD);
        due("no such top", x.live(6, 2, 0, 0), BAD);
        due("no such bottom", x.live(0, -1, 0, 0), BAD);
        due("rain 2", x.live(0, 1, 0, 2), BAD);
        due("rain -1", x.live(0, 1, 0, -1), BAD);
        due("wash -1", x.live(0, 1, -1, 0), BAD);
        due("not fine", x.live(5, 1, 0, 0), STATE);
        x.packs(0b110111);
        due("not warm with the other coat", x.live(0, 1, 0, 0), STATE);
        x.packs(0b111101);
        due("a bottom at home", x.live(0, 1, 0, 0), STATE);
        x.packs(-1);
        due("warm with the warmest coat", x.live(0, 1, 0, 1), 1);
        due("worn once under a coat in rain", x.thing(0, 8), 1);
        due("dirty", x.thing(1, 8), 2);
        due("dirty can't be on", x.live(0, 1, 0, 0), STATE);
        due("worn twice, washed", x.live(0, 2, 1, 0), 2);
        due("dries soon", x.thing(0, 8), 0);
        due("dries late 1", x.thing(1, 8), 3);
        due("dries late 2", x.thing(2, 8), 3);
        due("fresh are", x.now(2), 0b111001);
        due("wet can't be on", x.live(0, 1, 0, 0), STATE);
        due("can't wash there", x.live(0, 2, 1, 0), STATE);
        rain();
        due("no days", new PackedCase().live(0, 0, 0, 0), BAD);
        PackedCase y = of("top 0 0 1 1 0 1;bottom 0 0 1 1 0 1;");
        due("over at once", y.live(0, 1, 0, 0), STATE);
    }

    private static void rain() {
        PackedCase x = of("top 0 0 1 1 0 2;bottom 0 0 1 1 0 1;bottom 0 0 1 1 0 2;top 0 0 1 1 0 2;bottom 0 0 1 1 0 2;"
            + "day 0 0;day 0 0 wash;day 0 0;day 0 0;coat 0 0 1 1 0;apart 3 2;apart 5 0;");
        x.packs(0b011111);
        due("apart", x.live(3, 2, 0, 1), STATE);
        due("rain without a coat", x.live(0, 1, 0, 1), 1);
        due("wet", x.thing(0, 8), 3);
        due("dirty, not wet", x.thing(1, 8), 2);
        due("the coat at home is fresh", x.now(2), 0b111100);
        due("wet can't be on", x.live(0, 2, 0, 0), STATE);
        due("washed and rained on", x.live(3, 2, 0, 1), STATE);
        due("washing on a day with rain", x.live(3, 4, 1, 1), 2);
        due("wet dries by night", x.thing(0, 8), 0);
        due("washed", x.thing(1, 8), 0);
        due("what got wet is not washed", x.thing(3, 8), 3);
        due("nor is the other", x.thing(4, 8), 3);
        due("worn once", x.live(0, 2, 0, 0), 3);
        due("then", x.thing(0, 8), 1);
        due("dry again", x.thing(3, 8), 0);
        due("worn once, rained on: dirty", x.live(0, 2, 0, 1), 4);
        due("dirty", x.thing(0, 8), 2);
        due("over", x.live(3, 4, 0, 0), STATE);
        due("over", x.now(3), 1);
        due("wrong before over", x.live(3, 0, 0, 0), BAD);
        x.packs(-1);
        due("a coat apart from a top comes besides", x.live(0, 2, 0, 1), 1);
        due("dry under it", x.thing(0, 8), 1);
    }

    private static void promise11() {
        PackedCase x = of("top 0 0 1 1 0 1;bottom 0 0 1 1 0 1;day 0 0;");
        due("now 0", x.now(0), 0);
        due("now 1", x.now(1), 3);
        due("now 2", x.now(2), 3);
        due("now 3", x.now(3), 0);
        due("now 4", x.now(4), BAD);
        due("now -1", x.now(-1), BAD);
        x.live(0, 1, 0, 0);
        due("now 0 then", x.now(0), 1);
        due("now 2 then", x.now(2), 0);
        due("now 3 then", x.now(3), 1);
    }

    private static final String WET_WEEK = "top 0 0 1 1 0 2;bottom 0 0 1 1 0 2;day 0 0;day 0 0;";

    private static void promise12() {
        PackedCase x = of(WET_WEEK + "day 5 0;coat 5 0 1 1 0;top 0 0 1 1 0 1;bottom 0 0 1 1 0 1;");
        due("two days, not three", x.serves(7, 0), 0);
        due("without a coat not warm", x.serves(0b11011, 0), 0);
        due("all", x.serves(-1, 0), 1);
        due("all, in rain", x.serves(31, 7), 1);
        due("weather left out", x.serves(7 + 32, -8), 0);
        x = of(WET_WEEK);
        due("dry", x.serves(3, 0), 1);
        due("wet on the first", x.serves(3, 1), 0);
        due("wet on the last", x.serves(3, 2), 1);
        due("days that there are not", x.serves(3, 4), 1);
        due("no bottom", x.serves(1, 0), 0);
        due("none", x.serves(0, 0), 0);
        x = of("top 0 0 1 1 0 1;".repeat(3) + "bottom 0 0 1 1 0 1;".repeat(3) + "day 0 0;".repeat(3));
        due("each thing once", x.serves(63, 0), 1);
        planned(x, 63, 0, "030" + "140" + "250");
        // Rain makes fresh again what was worn once, and a coat keeps it from that.
        x = of("top 0 0 1 1 0 2;bottom 0 0 1 1 0 2;top 0 0 1 1 0 1;bottom 0 0 1 1 0 1;coat 0 0 1 1 0;"
            + "day 0 0;day 0 0;day 0 0;day 0 0;");
        due("rained on", x.serves(15, 1), 1);
        due("rained on under a coat", x.serves(31, 1), 0);
        due("desk takes the coat off", x.desk(31, 1), 16);
        due("needless of what does not serve", x.needless(31, 1, 0), STATE);
    }

    private static void promise13() {
        PackedCase x = of("bottom 0 0 1 1 0 2;top 0 0 1 1 0 1;top 0 0 1 1 0 2;bottom 0 0 1 1 0 2;apart 1 0;"
            + "day 0 0;day 0 0 wash;day 0 0;day 0 0;");
        planned(x, 15, 0, "130" + "201" + "130" + "200");
        planned(x, 14, 0, "130" + "231" + "130" + "230");
        due("plan none", x.plan(3, 0, 0, 0), NONE);
        due("plan none washing", x.plan(3, 0, 3, 2), NONE);
        due("plan day 4", x.plan(15, 0, 4, 0), BAD);
        due("plan day 4 of none", x.plan(0, 0, 4, 0), BAD);
        due("plan day -1", x.plan(15, 0, -1, 0), BAD);
        due("plan what 3", x.plan(15, 0, 0, 3), BAD);
        due("plan what -1", x.plan(15, 0, 0, -1), BAD);
        due("plan without days", new PackedCase().plan(0, 0, 0, 0), BAD);
        x = of(WET_WEEK);
        planned(x, 3, 2, "010" + "010");
    }

    private static void promise14() {
        PackedCase x = of("top 0 0 1 1 0 2;bottom 0 0 1 1 0 2;coat 0 0 1 1 0;day 0 0 rain 3;day 0 0 rain 9;");
        due("odds without a coat", x.odds(3), 7000);
        due("odds with a coat", x.odds(7), 10000);
        due("odds of what there is not", x.odds(3 + 64), 7000);
        due("odds of none", x.odds(0), 0);
        x = of("top 0 0 1 1 0 2;bottom 0 0 1 1 0 2;top 0 0 1 1 0 1;bottom 0 0 1 1 0 1;"
            + "day 0 0 rain 1;day 0 0 rain 10;day 0 0 rain 0;");
        due("odds of four", x.odds(15), 10000);
        due("odds of three", x.odds(7), 0);
        x = of("top 0 0 1 1 0 2;bottom 0 0 1 1 0 2;day 0 0 rain 1 ;day 0 0 rain 3;");
        due("odds 9 of 10", x.odds(3), 9000);
        x = of("top 0 0 1 1 0 2;bottom 0 0 1 1 0 2;day 0 0 rain 10;day 0 0;");
        due("odds surely not", x.odds(3), 0);
        String wet = "top 0 0 1 1 0 2;bottom 0 0 1 1 0 2;top 0 0 1 1 0 2;bottom 0 0 1 1 0 2;";
        x = of(wet + "day 0 0 rain 1;day 0 0 rain 2;day 0 0 rain 3;day 0 0 rain 4;");
        due("odds of four wet days", x.odds(15), 10000);
        due("odds of one pair", x.odds(3), 0);
        String once = "top 0 0 1 1 0 1;bottom 0 0 1 1 0 1;";
        x = of(once + "day 0 0 wash rain 1;day 0 0 wash rain 1;day 0 0 wash rain 1;day 0 0 wash rain 1;");
        due("odds, one of 10000 added", x.odds(3), 10000);
    }

    private static void promise15() {
        PackedCase x = of("top 0 0 9 1 0 2;top 0 0 1 9 0 2;bottom 0 0 1 5 0 2;bottom 0 0 5 5 0 2;coat 0 0 1 1 0;"
            + "day 0 0 rain 5;day 0 0;");
        due("light", x.least(1000, 0), 0b10101);
        due("small", x.least(1000, 1), 0b10110);
        due("light by a half", x.least(500, 0), 0b00101);
        due("light by more", x.least(501, 0), 0b10101);
        due("light by none", x.least(0, 0), 0);
        due("least h 1001", x.least(1001, 0), BAD);
        due("least h -1", x.least(-1, 0), BAD);
        due("least what 2", x.least(0, 2), BAD);
        due("least what -1", x.least(0, -1), BAD);
        due("none", of("day 0 0;").least(1, 0), NONE);
        due("none needed", of("day 0 0;").least(0, 1), 0);
    }

    private static void promise16() {
        PackedCase x = of("top 0 0 1 1 0 1;bottom 0 0 1 1 0 2;coat 9 0 1 1 0;coat 0 0 1 1 0;top 0 0 1 1 0 1;top 0 0 1 1 0 1;"
            + "day 9 0;day 9 0 rain 5;");
        due("needless", x.needless(63, 0, 0), 0b111001);
        due("needless of two tops", x.needless(0b011111, 0, 0), 0b001000);
        due("never", x.needless(63, 0, 1), 0b100000);
        due("needless does not serve", x.needless(0b111011, 0, 0), STATE);
        due("never does not serve", x.needless(0b111011, 0, 1), STATE);
        due("needless what 2", x.needless(63, 0, 2), BAD);
        due("needless what -1 of none", x.needless(0, 0, -1), BAD);
        x = of("top 0 0 1 1 0 1;coat 9 0 1 1 0;");
        due("needless without days", x.needless(3, 0, 0), 3);
        due("never without days", x.needless(3, 0, 1), 1);
    }

    private static void promise17() {
        PackedCase x = of("top 0 0 1 1 30 2;top 0 0 1 1 20 1;bottom 0 0 1 1 7 2;bottom 0 0 1 1 7 2;top 0 0 1 1 10 1;"
            + "coat 0 0 1 1 1;day 0 0;day 0 0 rain 5;");
        due("buy all", x.buy(0, 0, 0), 0b000101);
        due("buy all, prices", x.buy(0, 0, 1), 37);
        due("buy a top", x.buy(0b000110, 0, 0), 0b010000);
        due("buy a top, price", x.buy(0b000110, 0, 1), 10);
        due("buy for rain", x.buy(0b000101, 1, 0), 0b100000);
        due("buy nothing", x.buy(0b000101, 2, 0), 0);
        due("buy nothing, price", x.buy(0b000101, 2, 1), 0);
        due("buy what 2", x.buy(0, 0, 2), BAD);
        due("buy what -1", x.buy(0, 0, -1), BAD);
        x = of("top 0 0 1 1 0 1;day 0 0;");
        due("none to buy", x.buy(0, 0, 0), NONE);
        due("none to buy, price", x.buy(1, 0, 1), NONE);
        x = of("top 0 0 1 1 0 1;bottom 0 0 1 1 0 1;bottom 0 0 1 1 0 1;day 0 0;");
        due("buy for nothing, the least set", x.buy(0, 0, 0), 3);
        due("buy for nothing", x.buy(0, 0, 1), 0);
    }

    private static void promise18() {
        PackedCase x = of("top 0 0 1 90 0 2;bottom 0 0 1 20 0 2;top 0 0 1 90 0 2;coat 0 0 1 30 0;bottom 0 0 1 20 0 2;"
            + "day 0 0;day 0 0 rain 5;");
        due("desk 250 of 200", x.desk(31, 0), 1);
        due("desk in rain", x.desk(31, 1), 1);
        due("desk of what is light", x.desk(3, 0), 0);
        x.tune(0, 130);
        due("desk 250 of 130", x.desk(31, 0), 9);
        due("desk 250 of 130 in rain", x.desk(31, 1), NONE);
        x.tune(0, 140);
        due("desk 250 of 140 in rain", x.desk(31, 1), 3);
        due("desk does not serve", x.desk(1, 0), NONE);
        due("desk of what there is not", x.desk(3 + 32, 0), 0);
        PackedCase y = of("coat 0 0 1 99 0;".repeat(6));
        due("desk takes some", y.desk(63, 0), 15);
        y.tune(0, 0);
        due("desk takes all", y.desk(63, 0), 63);
        x.tune(0, 109);
        due("desk 110 of 109", x.desk(3, 0), NONE);
        x.tune(0, 110);
        due("desk 110 of 110", x.desk(3, 0), 0);
    }

    private static void promise19() {
        // First days by the plan: top 0 on day 1 only, bottom 1 on day 0, top 2 on day 0, bottom 3 never.
        PackedCase x = of("top 0 9 60 1 0 1;bottom 0 9 30 1 0 2;top 5 0 30 1 0 1;bottom 0 0 30 1 0 1;coat 0 0 30 1 0;"
            + "day 5 0;day 0 9;");
        planned(x, 15, 0, "210" + "010");
        int[] rows = {0, 1, 1, 0, 1};
        x.tune(2, 90);
        due("no trouble", x.pack(31, 0, -1), 0);
        for (int i = 0; i < 5; i++) {
            due("layer of " + i, x.pack(31, 0, i), rows[i]);
        }
        due("pack 5", x.pack(31, 0, 5), BAD);
        due("pack -2", x.pack(31, 0, -2), BAD);
        due("pack what is at home", x.pack(15, 0, 4), BAD);
        due("pack 32", x.pack(-1, 0, 32), BAD);
        due("no plan", x.pack(7 - 2, 0, -1), STATE);
        due("no plan, wrong too", x.pack(7 - 2, 0, 1), BAD);
        x.tune(2, 89);
        due("too much for two layers", x.pack(31, 0, -1), NONE);
        due("too much for two layers, a thing", x.pack(31, 0, 0), NONE);
        x.tune(1, 4);
        x.tune(2, 60);
        due("four layers", x.pack(31, 0, -1), 0);
        due("four layers, 0", x.pack(31, 0, 0), 1);
        due("four layers, 1", x.pack(31, 0, 1), 2);
        due("four layers, 3", x.pack(31, 0, 3), 0);
        x.tune(1, 2);
        due("two layers of three", x.pack(7, 0, -1), 0);
        due("two layers of three, 0", x.pack(7, 0, 0), 0);
        x.tune(1, 1);
        x.tune(2, 180);
        due("one layer", x.pack(31, 0, -1), 0);
        due("one layer, 4", x.pack(31, 0, 4), 0);
        trouble();
    }

    private static void trouble() {
        // The one on day 0 is so large that the others, later, must share a layer, or lie above it.
        PackedCase x = of("top 5 0 50 1 0 1;bottom 5 0 50 1 0 1;top 0 0 40 1 0 1;bottom 0 0 60 1 0 1;day 10 0;day 0 0;");
        x.tune(2, 100);
        due("first days", x.plan(15, 0, 0, 0), 0);
        due("trouble none", x.pack(15, 0, -1), 0);
        due("layer 2", x.pack(15, 0, 2), 0);
        x = of("top 5 0 50 1 0 1;bottom 5 0 60 1 0 1;top 0 0 50 1 0 1;bottom 0 0 40 1 0 1;day 10 0;day 0 0;");
        x.tune(2, 100);
        due("trouble", x.pack(15, 0, -1), 1);
        due("trouble 0", x.pack(15, 0, 0), 0);
        due("trouble 1", x.pack(15, 0, 1), 1);
        due("trouble 2", x.pack(15, 0, 2), 0);
        due("trouble 3", x.pack(15, 0, 3), 1);
    }

    private static void promise20() {
        PackedCase x = of("top 0 0 1 1 0 1;top 0 0 1 1 0 1;coat 0 0 1 1 0;bottom 0 0 1 1 0 1;apart 0 1;apart 2 3;");
        due("allGo", x.allGo(0), 0b0101);
        due("allGo, how many", x.allGo(1), 2);
        due("allGo 2", x.allGo(2), BAD);
        due("allGo -1", x.allGo(-1), BAD);
        due("allGo of none apart", of("top 0 0 1 1 0 1;coat 0 0 1 1 0;").allGo(0), 3);
        due("allGo of one", of("coat 0 0 1 1 0;").allGo(1), 1);
    }

    private static void promise21() {
        PackedCase x = of("top 0 0 1 1 0 2;bottom 0 0 1 1 0 2;top 0 0 1 1 0 2;bottom 0 0 1 1 0 1;day 0 0;");
        due("again twice", x.again(3), 2);
        due("again of the shorter", x.again(9), 1);
        due("again none", x.again(2), 0);
        due("again three times", x.again(15), 3);
        due("again of what there is not", x.again(3 + 16), 2);
        x = of("top 0 0 1 1 0 2;bottom 0 0 1 1 0 2;day 0 0 rain 10;day 0 0 wash;");
        due("again washed", x.again(3), 9);
        x = of("top 0 0 1 1 0 1 late;bottom 0 0 1 1 0 1;day 0 0 wash;");
        due("again late", x.again(3), 1);
        x = of("top 0 0 1 1 0 1 late;bottom 0 0 1 1 0 1 late;top 0 0 1 1 0 1;bottom 0 0 1 1 0 1 late;day 0 0 wash;");
        due("again by turns", x.again(15), 9);
        due("again without days", of("top 0 0 1 1 0 1;").again(1), STATE);
    }

    private static void promise22() {
        PackedCase x = new PackedCase();
        due("list -1", x.list(-1, 0), BAD);
        due("list 100", x.list(100, 0), BAD);
        due("list on -1", x.list(5, -1), BAD);
        due("list on more", x.list(5, 6), BAD);
        for (int k = 1; k <= 20; k++) {
            due("list " + k, x.list(99, k), k);
        }
        due("list full", x.list(0, 0), FULL);
        due("list full, wrong", x.list(0, 1), BAD);
        due("lists", x.count(2), 20);
    }

    private static void promise23() {
        PackedCase x = new PackedCase();
        for (int what = 0; what < 3; what++) {
            due("span none " + what, x.span(what), NONE);
        }
        due("waste none", x.span(3), 0);
        due("waste by", x.span(4), 1);
        due("span 5", x.span(5), BAD);
        due("span -1", x.span(-1), BAD);
        x.list(0, 0);
        due("waste of nothing", x.span(3), 0);
        due("waste of nothing by", x.span(4), 1);
        x.list(12, 8);
        due("middle, the lower", x.span(2), 0);
        due("waste upper", x.span(3), 1);
        due("waste lower", x.span(4), 3);
        x.list(3, 3);
        due("least", x.span(0), 0);
        due("greatest", x.span(1), 8);
        due("middle", x.span(2), 3);
        due("waste 4 of 15", x.span(3), 4);
        due("waste of 15", x.span(4), 15);
        PackedCase y = new PackedCase();
        y.list(7, 7);
        due("nothing wasted", y.span(3), 0);
        due("nothing wasted by", y.span(4), 1);
        PackedCase z = new PackedCase();
        z.list(7, 0);
        due("all wasted", z.span(3), 1);
        due("all wasted by", z.span(4), 1);
    }

    private static void promise24() {
        PackedCase x = of("top 2 3 1 50 7 2;bottom 1 0 1 1 9 1;day 0 0;");
        int[] used = {2, 5, -48, 10, -41, 2};
        long[] traces = {1, 11, 101, 1011, 10101, 100001};
        long sum = 0;
        for (int kind = 0; kind < 6; kind++) {
            due("use " + kind, x.use(kind, 0), used[kind]);
            sum += traces[kind];
            due("trace " + kind, x.trace(), sum);
        }
        x.live(0, 1, 0, 0);
        due("single worn once", x.use(5, 0), 3);
        due("single dirty", x.use(5, 1), 3);
        due("use 6", x.use(6, 0), NO);
        due("use -1", x.use(-1, 0), NO);
        due("use of no thing", x.use(0, 2), NO);
        due("use of thing -1", x.use(0, -1), NO);
        due("trace stays", x.trace(), sum + 200002);
    }

    private static void promises25And26() {
        PackedCase x = of("top 0 0 1 1 0 2;bottom 0 0 1 1 0 2;coat 0 0 1 1 0;day 0 0;day 0 0;");
        due("back none", x.back(0), STATE);
        due("back 2", x.back(2), BAD);
        due("keep 2", x.keep(2), BAD);
        due("keep -1", x.keep(-1), BAD);
        due("back -1", x.back(-1), BAD);
        x.packs(3);
        due("keep 0", x.keep(0), 0);
        x.live(0, 1, 0, 0);
        due("keep 1", x.keep(1), 1);
        x.packs(7);
        x.list(4, 4);
        x.tune(0, 9);
        x.use(0, 0);
        due("back 1", x.back(1), 1);
        due("back the set", x.now(1), 3);
        due("back how they are", x.thing(0, 8), 1);
        due("lists stay", x.count(2), 1);
        due("tunes stay", x.tune(0, 9), 9);
        due("trace stays", x.trace(), 1);
        due("back 0", x.back(0), 0);
        due("back 0 fresh", x.now(2), 7);
        x.live(0, 1, 0, 1);
        due("keep 0 anew", x.keep(0), 1);
        due("back 1 again", x.back(1), 1);
        due("worn once", x.thing(0, 8), 1);
        due("back 0 again", x.back(0), 1);
        due("wet", x.thing(0, 8), 3);
    }

    private static void promise27() {
        PackedCase x = of("top 0 0 1 20 0 2;bottom 0 0 3 40 0 2;coat 0 0 5 60 0;day 0 0;day 0 0;");
        type(x, "abc");
        x.list(1, 1);
        int[] counts = {3, 2, 1, 3, 120, 9};
        for (int what = 0; what < 6; what++) {
            due("count " + what, x.count(what), counts[what]);
        }
        x.packs(5);
        due("count 4 of a set", x.count(4), 80);
        due("count 5 of a set", x.count(5), 6);
        due("count 6", x.count(6), BAD);
        due("count -1", x.count(-1), BAD);
    }

    private static void promise28() {
        PackedCase x = of("top 0 0 1 20 0 2;");
        due("trace 0", x.trace(), 0);
        x.use(4, 0);
        x.use(4, 0);
        due("trace of two", x.trace(), 20202);
        x.use(7, 0);
        due("trace of wrong ones", x.trace(), 20202);
        x.journey();
        due("trace of a journey read anew", x.trace(), 20202);
    }

    public static void main(String[] args) {
        promise1();
        promise2();
        promise3();
        promise4();
        promise5();
        promise6();
        promise7();
        promise8();
        promise9();
        promise10();
        promise11();
        promise12();
        promise13();
        promise14();
        promise15();
        promise16();
        promise17();
        promise18();
        promise19();
        promise20();
        promise21();
        promise22();
        promise23();
        promise24();
        promises25And26();
        promise27();
        promise28();
        end("promises");
    }
}
