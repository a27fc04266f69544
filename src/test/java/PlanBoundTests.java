/** The bounds of what is planned (promises 12 to 21): at, one below, one beyond; none, empty and full. */
public final class PlanBoundTests extends Checks {

    // ---- sets and weathers as bits

    /** The last thing counts, bits beyond are left out, and there is no wrong set. */
    private static void bitsOfSets() {
        PackedCase x = of(TOP + TOP + BOTTOM + COAT + COAT + BOTTOM + "day 0 0;day 0 0;");
        for (int beyond : new int[] {0, 1 << 6, 1 << 7, 1 << 30, Integer.MIN_VALUE, -64}) {
            due("serves", x.serves(0b100111 | beyond, 0), 1);
            due("serves without the last", x.serves(0b000111 | beyond, 0), 0);
            due("plan", x.plan(0b100111 | beyond, 0, 1, 1), 5);
            due("plan without the last", x.plan(0b000111 | beyond, 0, 1, 1), NONE);
            due("odds", x.odds(0b100111 | beyond), 10000);
            due("odds without the last", x.odds(0b000111 | beyond), 0);
            due("needless", x.needless(0b111111 | beyond, 0, 0), 0b011000);
            due("never", x.needless(0b111111 | beyond, 0, 1), 0);
            due("buy", x.buy(0b000111 | beyond, 0, 0), 0b100000);
            due("buy for nothing", x.buy(0b000111 | beyond, 0, 1), 0);
            due("desk", x.desk(0b100111 | beyond, 0), 0);
            due("again", x.again(0b100111 | beyond), 1);
            due("again without the last", x.again(0b000111 | beyond), 0);
            due("pack", x.pack(0b100111 | beyond, 0, 5), 0);
            due("pack without the last", x.pack(0b000111 | beyond, 0, 2), STATE);
            due("pack what there is not", x.pack(0b100111 | beyond, 0, 6), BAD);
        }
        due("none serves", x.serves(0, 0), 0);
        due("without days none does", of(TOP).serves(0, 0), 1);
        due("nor a thing", of(TOP).serves(1, 0), 1);
    }

    /** Rain on any day but the last leaves the only top wet the day after; rain on days that there are not is left out. */
    private static void bitsOfWeathers() {
        for (int n = 2; n <= 8; n++) {
            PackedCase x = of(TOP_FOR_2 + BOTTOM + "day 0 0 wash;".repeat(n));
            for (int d = 0; d < 32; d++) {
                due("rain on day " + d + " of " + n, x.serves(3, 1 << d), d < n - 1 ? 0 : 1);
                due("plan in rain on day " + d + " of " + n, x.plan(3, 1 << d, 0, 2), d < n - 1 ? NONE : 1);
            }
            due("rain on days that there are not", x.serves(3, -1 << n), 1);
            due("rain ever", x.serves(3, -1), 0);
            due("dry", x.serves(3, 0), 1);
            due("desk in rain", x.desk(3, 1), NONE);
            due("desk in rain beyond", x.desk(3, 1 << n), 0);
            due("buy in rain beyond", x.buy(3, 1 << n, 0), 0);
            due("needless in rain beyond", x.needless(3, 1 << n, 0), 0);
            due("needless in rain", x.needless(3, 1, 0), STATE);
            due("pack in rain beyond", x.pack(3, 1 << n, -1), 0);
            due("pack in rain", x.pack(3, 1, -1), STATE);
        }
    }

    // ---- plans

    private static void plans() {
        PackedCase x = of(BOTTOM + TOP + BOTTOM_FOR_2 + TOP_FOR_2 + "day 0 0 wash;day 0 0;");
        planned(x, 15, 0, "100" + "320");
        planned(x, 0b0011, 0, "101" + "100");
        planned(x, 0b1100, 0, "320" + "320");
        due("day 1", x.plan(15, 0, 1, 0), 3);
        due("day 2", x.plan(15, 0, 2, 0), BAD);
        due("day -1", x.plan(15, 0, -1, 0), BAD);
        due("none", x.plan(0b0101, 0, 1, 2), NONE);
        due("none, and no such day", x.plan(0b0101, 0, 2, 2), BAD);
        due("none, and no such question", x.plan(0b0101, 0, 1, 3), BAD);
        PackedCase y = of(TOP.repeat(3) + BOTTOM.repeat(3) + DAY.repeat(3));
        planned(y, 63, 0, "030" + "140" + "250");
        due("a fourth day", of(TOP.repeat(3) + BOTTOM.repeat(3) + DAY.repeat(4)).serves(63, 0), 0);
        PackedCase z = of(TOP_FOR_2.repeat(3) + BOTTOM_FOR_2.repeat(3) + DAY.repeat(6));
        planned(z, 63, 0, "030" + "030" + "140" + "140" + "250" + "250");
        due("a seventh day", of(TOP_FOR_2.repeat(3) + BOTTOM_FOR_2.repeat(3) + DAY.repeat(7)).serves(63, 0), 0);
        PackedCase w = of(TOP + BOTTOM + "day 0 0 wash;".repeat(8));
        planned(w, 3, 0, "011".repeat(7) + "010");
        planned(w, 3, 255, "011".repeat(7) + "010");
    }

    // ---- odds, light, small

    private static void odds() {
        String pair = TOP_FOR_2 + BOTTOM;
        for (int r = 0; r <= 10; r++) {
            due("odds, dry by " + (10 - r), of(pair + "day 0 0 wash rain " + r + ";" + DAY).odds(3), 1000 * (10 - r));
        }
        String likely = "day 0 0 wash rain 9;";
        int[] due = {10000, 1000, 100, 10, 1};
        for (int n = 0; n <= 4; n++) {
            PackedCase x = of(pair + likely.repeat(n) + DAY);
            due("odds, dry on " + n, x.odds(3), due[n]);
            due("odds, in vain", x.odds(1), 0);
        }
        PackedCase all = of(TOP + BOTTOM_FOR_2 + TOP_FOR_2 + BOTTOM_FOR_2
            + "day 0 0 rain 1;day 0 0 rain 1;day 0 0 wash rain 1;day 0 0;day 0 0 rain 1;day 0 0;");
        due("all but one of 10000", all.odds(15), 9999);
        due("rain on those four", all.serves(15, 0b010111), 0);
        due("rain on three of them", all.serves(15, 0b000111), 1);
        due("least, 999 of 1000", all.least(999, 0), 15);
        due("least, 1000 of 1000", all.least(1000, 0), NONE);
        PackedCase sure = of(pair + "day 0 0 wash rain 10;day 0 0 wash rain 10;day 0 0 rain 0;");
        due("surely rain", sure.odds(3), 0);
        due("surely rain, a coat", of(pair + COAT + "day 0 0 wash rain 10;day 0 0 wash rain 10;day 0 0;").odds(7), 10000);
        due("without days", of(pair).odds(0), 10000);
        due("without things", of(DAY).odds(0), 0);
    }

    private static void thousandths() {
        String pair = TOP_FOR_2 + BOTTOM;
        for (int r = 1; r <= 9; r++) {
            PackedCase x = of(pair + "day 0 0 wash rain " + r + ";" + DAY);
            int h = 1000 - 100 * r;
            for (int what = 0; what < 2; what++) {
                due("least, one below", x.least(h - 1, what), 3);
                due("least, just so", x.least(h, what), 3);
                due("least, one beyond", x.least(h + 1, what), NONE);
                due("least by 1", x.least(1, what), 3);
                due("least by 0", x.least(0, what), 0);
                due("least by -1", x.least(-1, what), BAD);
                due("least by 1001", x.least(1001, what), BAD);
            }
        }
        String likely = "day 0 0 wash rain 9;";
        PackedCase three = of(pair + likely.repeat(3) + DAY);
        due("10 of 10000 by 1", three.least(1, 0), 3);
        due("10 of 10000 by 2", three.least(2, 0), NONE);
        PackedCase four = of(pair + likely.repeat(4) + DAY);
        due("1 of 10000 by 0", four.least(0, 0), 0);
        due("1 of 10000 by 1", four.least(1, 0), NONE);
        PackedCase always = of(pair + COAT + "day 0 0 rain 1;");
        due("10000 by 999", always.least(999, 0), 3);
        due("10000 by 1000", always.least(1000, 0), 3);
    }

    /** Of several sets that weigh the same the least; the greatest weights and sizes. */
    private static void lightAndSmall() {
        PackedCase x = of("top 0 0 9 2 0 1;top 0 0 8 2 0 1;bottom 0 0 1 4 0 1;bottom 0 0 1 4 0 1;bottom 0 0 2 3 0 1;" + DAY);
        due("light", x.least(1000, 0), 0b10001);
        due("small", x.least(1000, 1), 0b00110);
        PackedCase y = of("top 0 0 99 99 0 1;bottom 0 0 99 99 0 1;".repeat(3) + "day 0 0;day 0 0;day 0 0;");
        due("light, all", y.least(1000, 0), 63);
        due("small, all", y.least(1000, 1), 63);
        due("none of all", of("top 0 0 99 99 0 1;bottom 0 0 99 99 0 1;" + DAY + DAY).least(1, 1), NONE);
        PackedCase z = of("top 0 0 1 1 0 1;top 0 0 1 1 0 1;bottom 0 0 1 1 0 1;bottom 0 0 1 1 0 1;" + DAY);
        due("of four the least", z.least(1000, 0), 0b0101);
    }

    // ---- what may stay at home, what to buy, what comes off

    private static void needless() {
        PackedCase x = of(TOP + BOTTOM + COAT + DAY);
        due("only the coat", x.needless(7, 0, 0), 4);
        due("none of two", x.needless(3, 0, 0), 0);
        due("never: none", x.needless(7, 0, 1), 0);
        PackedCase y = of(TOP + TOP + BOTTOM + BOTTOM + COAT + DAY);
        due("each alone", y.needless(31, 0, 0), 31);
        due("never", y.needless(31, 0, 1), 0b01010);
        due("does not serve", y.needless(3, 0, 0), STATE);
        due("none of none", of(TOP + COAT).needless(0, 0, 0), 0);
        due("all without days", of(TOP + COAT + BOTTOM).needless(7, 0, 0), 7);
        due("never without days", of(TOP + COAT + BOTTOM).needless(7, 0, 1), 5);
        due("never, the last", of(TOP.repeat(4) + BOTTOM + TOP + DAY).needless(63, 0, 1), 0b101110);
    }

    private static void buy() {
        PackedCase x = of("top 0 0 1 1 99 1;top 0 0 1 1 98 1;bottom 0 0 1 1 99 1;bottom 0 0 1 1 99 1;" + DAY);
        due("buy", x.buy(0, 0, 0), 0b0110);
        due("prices", x.buy(0, 0, 1), 197);
        due("buy a bottom, the least set", x.buy(1, 0, 0), 4);
        due("price", x.buy(1, 0, 1), 99);
        due("it serves", x.buy(5, 0, 0), 0);
        due("for nothing", x.buy(5, 0, 1), 0);
        PackedCase all = of("top 0 0 1 1 99 1;bottom 0 0 1 1 99 1;".repeat(3) + "day 0 0;day 0 0;day 0 0;");
        due("buy all", all.buy(0, 0, 0), 63);
        due("prices of all", all.buy(0, 0, 1), 594);
        due("buy the last", all.buy(31, 0, 0), 32);
        PackedCase free = of(TOP + TOP + BOTTOM + DAY);
        due("for nothing, the least set", free.buy(0, 0, 0), 5);
        due("for nothing, the prices", free.buy(0, 0, 1), 0);
        due("none", of(TOP + TOP + DAY).buy(0, 0, 0), NONE);
        due("none of none", of(DAY).buy(0, 0, 1), NONE);
    }

    private static void desk() {
        PackedCase x = of("top 0 0 1 50 0 1;bottom 0 0 1 50 0 1;coat 0 0 1 50 0;coat 0 0 1 50 0;" + DAY);
        due("desk at 200 of 200", x.desk(15, 0), 0);
        due("tune", x.tune(0, 199), 200);
        due("desk one below", x.desk(15, 0), 4);
        x.tune(0, 150);
        due("desk at 150", x.desk(15, 0), 4);
        x.tune(0, 149);
        due("desk below 150", x.desk(15, 0), 12);
        x.tune(0, 100);
        due("desk at 100", x.desk(15, 0), 12);
        x.tune(0, 99);
        due("desk below what serves", x.desk(15, 0), NONE);
        x.tune(0, 0);
        due("desk at 0", x.desk(15, 0), NONE);
        due("desk of what does not serve", x.desk(13, 0), NONE);
        PackedCase most = of("top 0 0 1 99 0 1;bottom 0 0 1 99 0 1;".repeat(3) + DAY);
        most.tune(0, 999);
        due("desk, the greatest limit", most.desk(63, 0), 0);
        most.tune(0, 594);
        due("desk, the greatest weight", most.desk(63, 0), 0);
        most.tune(0, 593);
        due("desk, one below it", most.desk(63, 0), 1);
        most.tune(0, 198);
        due("desk, four come off", most.desk(63, 0), 0b001111);
        most.tune(0, 197);
        due("desk, none", most.desk(63, 0), NONE);
        PackedCase resting = of("coat 0 0 1 1 0;".repeat(6));
        resting.tune(0, 0);
        due("desk, all come off", resting.desk(63, 0), 63);
        due("desk of none", resting.desk(0, 0), 0);
        resting.tune(0, 1);
        due("desk, all but one", resting.desk(63, 0), 31);
    }

    // ---- layers

    private static void layers() {
        for (int layers = 1; layers <= 4; layers++) {
            for (int n = 1; n <= 6; n++) {
                PackedCase x = of("coat 0 0 50 1 0;".repeat(n));
                int all = (1 << n) - 1;
                x.tune(1, layers);
                x.tune(2, 50);
                due(n + " in " + layers + " of 50", x.pack(all, 0, -1), n <= layers ? 0 : NONE);
                due("the last of them", x.pack(all, 0, n - 1), n <= layers ? n - 1 : NONE);
                due("one beyond", x.pack(all, 0, n), BAD);
                x.tune(2, 49);
                due(n + " in " + layers + " of 49", x.pack(all, 0, -1), NONE);
                x.tune(2, 51);
                due(n + " in " + layers + " of 51", x.pack(all, 0, n - 1), n <= layers ? n - 1 : NONE);
                x.tune(2, 99);
                due(n + " in " + layers + " of 99", x.pack(all, 0, -1), n <= layers ? 0 : NONE);
                x.tune(2, 100);
                due(n + " in " + layers + " of 100", x.pack(all, 0, -1), n <= 2 * layers ? 0 : NONE);
                due("the last of them", x.pack(all, 0, n - 1), n <= 2 * layers ? (n - 1) / 2 : NONE);
                x.tune(2, 50 * n);
                due("all in one", x.pack(all, 0, n - 1), 0);
            }
        }
    }

    /** Those not of the set are left out, the first ones and the last ones, too. */
    private static void layersOfSome() {
        PackedCase x = of("coat 0 0 50 1 0;".repeat(6));
        x.tune(2, 50);
        for (int i = 0; i < 6; i++) {
            for (int j = 0; j < 6; j++) {
                int set = 1 << i | 1 << j;
                due("the lower of " + set, x.pack(set, 0, Math.min(i, j)), 0);
                due("the upper of " + set, x.pack(set, 0, Math.max(i, j)), i == j ? 0 : 1);
                due("trouble of " + set, x.pack(set, 0, -1), 0);
            }
        }
    }

    private static void deepness() {
        PackedCase x = of("coat 0 0 1 1 0;");
        x.tune(2, 1);
        due("1 in 1", x.pack(1, 0, 0), 0);
        due("none in 1", x.pack(0, 0, -1), 0);
        due("a thing at home", x.pack(0, 0, 0), BAD);
        PackedCase two = of("coat 0 0 2 1 0;");
        two.tune(2, 1);
        due("2 in 1", two.pack(1, 0, -1), NONE);
        due("2 in 1, itself", two.pack(1, 0, 0), NONE);
        due("2 in 1, another", two.pack(1, 0, 1), BAD);
        PackedCase most = of("coat 0 0 99 1 0;".repeat(6));
        most.tune(1, 1);
        most.tune(2, 594);
        due("594 in 594", most.pack(63, 0, -1), 0);
        most.tune(2, 593);
        due("594 in 593", most.pack(63, 0, -1), NONE);
        due("495 in 593", most.pack(31, 0, -1), 0);
        most.tune(2, 999);
        due("594 in 999", most.pack(63, 0, 5), 0);
    }

    /** The earlier ones have to lie above: two layers, each as full as can be. */
    private static void trouble() {
        PackedCase x = of("top 0 0 50 1 0 1;bottom 0 0 50 1 0 1;top 0 0 50 1 0 1;bottom 0 0 50 1 0 1;" + DAY + DAY);
        planned(x, 15, 0, "010" + "230");
        due("no trouble", x.pack(15, 0, -1), 0);
        int[] rows = {1, 1, 0, 0};
        for (int i = 0; i < 4; i++) {
            due("layer of " + i, x.pack(15, 0, i), rows[i]);
        }
        PackedCase never = of("top 0 0 60 1 0 1;bottom 0 0 60 1 0 1;top 0 0 40 1 0 1;" + DAY);
        due("never on: below", never.pack(7, 0, 2), 0);
        due("no trouble", never.pack(7, 0, -1), 0);
        due("the first one below, too", never.pack(7, 0, 0), 0);
        due("the other above", never.pack(7, 0, 1), 1);
        PackedCase forced = of("top 0 0 60 1 0 1;bottom 0 0 60 1 0 1;coat 0 0 40 1 0;coat 0 0 40 1 0;" + DAY);
        due("the coats' first day is 0", forced.pack(15, 0, -1), 0);
        due("layer of a coat", forced.pack(15, 0, 2), 0);
        due("layer of the other", forced.pack(15, 0, 3), 1);
        PackedCase must = of("top 9 0 99 1 0 1;bottom 0 0 49 1 0 1;top 0 0 50 1 0 1;coat 0 0 99 1 0;day 9 0;");
        must.tune(1, 3);
        must.tune(2, 99);
        due("one never on goes below one worn", must.pack(15, 0, -1), 0);
        due("it lies lowest", must.pack(15, 0, 2), 0);
        due("with it", must.pack(15, 0, 1), 0);
        due("then the first", must.pack(15, 0, 0), 1);
        due("then the coat", must.pack(15, 0, 3), 2);
    }

    /** The large ones of day 0 can't share a layer, so that one of day 1 lies above one of them. */
    private static void noWayWithoutTrouble() {
        PackedCase x = of("top 0 0 60 1 0 1;top 0 0 40 1 0 1;bottom 0 0 60 1 0 1;bottom 0 0 40 1 0 1;apart 0 3;apart 1 2;"
            + DAY + DAY);
        planned(x, 15, 0, "020" + "130");
        due("one pair of four", x.pack(15, 0, -1), 1);
        int[] rows = {0, 0, 1, 1};
        for (int i = 0; i < 4; i++) {
            due("layer of " + i, x.pack(15, 0, i), rows[i]);
        }
    }

    // ---- all go, again

    private static void allGo() {
        for (int n = 0; n <= 6; n++) {
            PackedCase x = of(TOP.repeat(n));
            due("all of " + n, x.allGo(0), (1 << n) - 1);
            due("how many of " + n, x.allGo(1), n);
        }
        StringBuilder s = new StringBuilder(TOP + BOTTOM + COAT + TOP + BOTTOM + COAT);
        for (int i = 0; i < 6; i++) {
            for (int j = 0; j < i; j++) {
                s.append("apart ").append(i).append(' ').append(j).append(';');
            }
        }
        PackedCase x = of(s.toString());
        due("none with another: the first", x.allGo(0), 1);
        due("one", x.allGo(1), 1);
        PackedCase y = of(TOP.repeat(6) + "apart 0 1;apart 2 3;apart 4 5;");
        due("of several the least", y.allGo(0), 0b010101);
        due("three", y.allGo(1), 3);
        due("all but the last", of(TOP.repeat(6) + "apart 4 5;").allGo(0), 0b011111);
    }

    private static void again() {
        due("without days", of(TOP + BOTTOM).again(3), STATE);
        due("without anything", new PackedCase().again(-1), STATE);
        due("with one day", of(TOP + BOTTOM + DAY).again(3), 1);
        due("none", of(TOP + BOTTOM + DAY).again(1), 0);
        due("none of none", of(DAY).again(0), 0);
        String most = TOP_FOR_2.repeat(3) + BOTTOM_FOR_2.repeat(3);
        int[] due = {0, 6, 3, 2, 1, 1, 1, 0, 0};
        for (int n = 1; n <= 8; n++) {
            due("journeys of " + n, of(most + DAY.repeat(n)).again(63), due[n]);
            due("washed ones of " + n, of(most + "day 0 0 wash;".repeat(n)).again(63), 9);
        }
        due("less of them", of(most + DAY).again(0b011011), 4);
        due("rain is left out", of(most + "day 0 0 rain 10;").again(63), 6);
        due("what is wet goes on", of("top 0 0 1 1 0 1 late;bottom 0 0 1 1 0 1;day 0 0 wash;").again(3), 1);
        due("and dries on the way", of("top 0 0 1 1 0 1 late;top 0 0 1 1 0 1 late;" + BOTTOM + "day 0 0 wash;").again(7), 9);
        due("what is worn goes on", of(TOP_FOR_2 + BOTTOM_FOR_2 + "day 0 0;").again(3), 2);
        due("washed on one day of three", of(TOP_FOR_2 + BOTTOM_FOR_2 + "day 0 0;day 0 0 wash;day 0 0;").again(3), 1);
        due("three are wet at once", of("top 0 5 1 1 0 2 late;bottom 0 5 1 1 0 1 late;bottom 0 5 1 1 0 1 late;"
            + TOP_FOR_2 + BOTTOM_FOR_2 + "day 0 5;day 0 5 wash;day 0 0;").again(31), 9);
        due("washed on the last of two", of(TOP_FOR_2 + BOTTOM_FOR_2 + "day 0 0;day 0 0 wash;").again(3), 9);
    }

    public static void main(String[] args) {
        bitsOfSets();
        bitsOfWeathers();
        plans();
        odds();
        thousandths();
        lightAndSmall();
        needless();
        buy();
        desk();
        layers();
        layersOfSome();
        deepness();
        trouble();
        noWayWithoutTrouble();
        allGo();
        again();
        end("bounds of plans");
    }
}
