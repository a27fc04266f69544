import java.util.ArrayList;
import java.util.List;
import java.util.function.Supplier;
import java.util.function.ToLongFunction;

/**
 * Calls that are refused, in objects new, empty, under way and full: each answers as it must and changes nothing,
 * and so do calls that only ask. Whether anything has changed is asked of the object and of one like it without the call.
 */
public final class RefusalTests extends Checks {
    private static final String SIX_THINGS = "top 3 4 30 25 10 2 late;bottom 2 5 20 15 20 2;coat 4 0 40 35 30;"
        + "top 1 6 10 20 0 1;bottom 5 3 25 30 5 2 late;bottom 0 9 15 10 40 2;apart 3 4;";
    private static final String EIGHT_DAYS = "day 5 3 wash rain 3;day 4 2 wash rain 9;day 6 3 wash;day 3 0 rain 1;"
        + "day 2 1 wash rain 10;day 5 4 rain 5;day 0 0 wash;day 4 3;";

    private record Situation(String name, int things, int days, Supplier<PackedCase> maker) {
    }

    private record Refused(String name, long due, ToLongFunction<PackedCase> call) {
    }

    // ---- situations

    private static PackedCase homeless() {
        PackedCase x = new PackedCase();
        x.keep(1);
        return x;
    }

    private static PackedCase withJourney() {
        return of(SIX_THINGS + EIGHT_DAYS);
    }

    /** On day 2, one thing at home, things worn once, dirty and wet, image 0 alone kept, a text begun. */
    private static PackedCase underWay() {
        PackedCase x = of(SIX_THINGS + EIGHT_DAYS);
        x.packs(0b110011);
        due("first day", x.live(0, 1, 0, 1), 1);
        x.keep(0);
        due("second day", x.live(0, 4, 0, 1), STATE);
        x.packs(0b111011);
        due("first day anew", x.live(0, 1, 0, 0), 1);
        due("second day anew", x.live(0, 4, 1, 1), 2);
        x.tune(0, 130);
        x.tune(1, 3);
        x.tune(2, 70);
        x.list(20, 11);
        x.list(30, 30);
        x.use(3, 0);
        type(x, "top 1 2 3 4 5 1;bottom 5 4 3 2 1 2 late;day 1 1;day 2");
        return x;
    }

    /** The journey over, both images kept, twenty lists, a text of 500 bytes with a fault. */
    private static PackedCase full() {
        PackedCase x = of(SIX_THINGS + "day 0 0 rain 4;day 0 0 wash;");
        x.packs(0b011011);
        x.keep(0);
        x.live(0, 1, 0, 1);
        x.keep(1);
        due("the last day", x.live(3, 1, 0, 0), STATE);
        x.packs(0b010011);
        x.live(0, 1, 0, 1);
        x.packs(0b111011);
        x.live(0, 1, 0, 1);
        due("the last day", x.live(3, 5, 0, 1), 2);
        for (int k = 0; k < 20; k++) {
            x.list(99 - k, 3 * k);
        }
        x.use(5, 0);
        type(x, SIX_THINGS + EIGHT_DAYS);
        type(x, " ".repeat(497 - x.count(3)) + "top");
        due("bytes", x.count(3), 500);
        return x;
    }

    /** A journey in which no set serves in any weather. */
    private static PackedCase hopeless() {
        PackedCase x = of(TOP + COAT + TOP + DAY + "day 0 9 wash;");
        type(x, ";");
        return x;
    }

    /** Things, but no days. */
    private static PackedCase resting() {
        PackedCase x = of(SIX_THINGS);
        x.packs(0b001111);
        return x;
    }

    private static List<Situation> situations() {
        return List.of(
            new Situation("new", 0, 0, PackedCase::new),
            new Situation("without a journey", 0, 0, RefusalTests::homeless),
            new Situation("with a journey", 6, 8, RefusalTests::withJourney),
            new Situation("under way", 6, 8, RefusalTests::underWay),
            new Situation("full", 6, 2, RefusalTests::full),
            new Situation("hopeless", 3, 2, RefusalTests::hopeless),
            new Situation("resting", 6, 0, RefusalTests::resting));
    }

    // ---- all that can be asked of an object; 400 calls and some, the last of which change it

    private static String everything(PackedCase x) {
        StringBuilder s = new StringBuilder();
        tellJourney(x, s);
        tellLife(x, s);
        s.append(" plans");
        for (int what = 0; what < 2; what++) {
            tell(s, x.least(1000, what), x.least(300, what), x.allGo(what));
        }
        tell(s, x.odds(-1), x.odds(0b011011), x.again(-1), x.desk(-1, 0), x.pack(0b111011, 3, -1), x.buy(1, 2, 1));
        s.append(" lists");
        for (int what = 0; what < 5; what++) {
            tell(s, x.span(what));
        }
        tell(s, x.list(50, 20), x.count(2), x.span(2), x.trace());
        s.append(" tunes");
        tell(s, x.tune(0, 77), x.tune(1, 1), x.tune(2, 66));
        for (int image = 0; image < 2; image++) {
            s.append(" image");
            tell(s, x.back(image));
            tellLife(x, s);
        }
        s.append(" text");
        tell(s, x.count(3), x.type(' ', 1), x.type('3', 1), x.type(';', 1), x.journey(), x.count(3));
        tellJourney(x, s);
        tell(s, x.clear(), x.back(0), x.back(1));
        return s.toString();
    }

    private static void tellJourney(PackedCase x, StringBuilder s) {
        s.append(" things");
        for (int i = 0; i < 6; i++) {
            for (int what = 0; what < 8; what++) {
                tell(s, x.thing(i, what));
            }
            for (int j = 0; j < i; j++) {
                tell(s, x.goes(i, j));
            }
        }
        s.append(" days");
        for (int d = 0; d < 8; d++) {
            for (int what = 0; what < 4; what++) {
                tell(s, x.day(d, what));
            }
        }
        tell(s, x.count(0), x.count(1));
    }

    private static void tellLife(PackedCase x, StringBuilder s) {
        s.append(" life");
        for (int what = 0; what < 4; what++) {
            tell(s, x.now(what));
        }
        for (int i = 0; i < 6; i++) {
            tell(s, x.thing(i, 8));
        }
        tell(s, x.count(4), x.count(5));
    }

    private static void tell(StringBuilder s, long... answers) {
        for (long answer : answers) {
            s.append(' ').append(answer);
        }
    }

    // ---- calls that are refused

    /** One below, one beyond, and what would wrap around to a number that may be. */
    private static int[] outside(int least, int most) {
        return new int[] {least - 1, most + 1, most + 32, most + 256, least - 65536, Integer.MIN_VALUE, Integer.MAX_VALUE};
    }

    private static void refuse(List<Refused> all, String name, long due, ToLongFunction<PackedCase> call) {
        all.add(new Refused(name, due, call));
    }

    private static List<Refused> badJourneyCalls(Situation at) {
        List<Refused> all = new ArrayList<>();
        for (int n : outside(1, 8)) {
            refuse(all, "type(59, " + n + ")", BAD, x -> x.type(59, n));
        }
        for (int i : outside(0, at.things() - 1)) {
            refuse(all, "thing(" + i + ", 0)", BAD, x -> x.thing(i, 0));
            refuse(all, "thing(" + i + ", 8)", BAD, x -> x.thing(i, 8));
            refuse(all, "goes(" + i + ", 0)", BAD, x -> x.goes(i, 0));
            refuse(all, "goes(0, " + i + ")", BAD, x -> x.goes(0, i));
            refuse(all, "use(0, " + i + ")", NO, x -> x.use(0, i));
            refuse(all, "use(5, " + i + ")", NO, x -> x.use(5, i));
        }
        for (int i = 0; i < 6; i++) {
            int it = i;
            refuse(all, "goes of one and the same " + i, BAD, x -> x.goes(it, it));
        }
        for (int what : outside(0, 8)) {
            refuse(all, "thing(0, " + what + ")", BAD, x -> x.thing(0, what));
        }
        for (int d : outside(0, at.days() - 1)) {
            refuse(all, "day(" + d + ", 0)", BAD, x -> x.day(d, 0));
            refuse(all, "plan(-1, 0, " + d + ", 0)", BAD, x -> x.plan(-1, 0, d, 0));
        }
        for (int what : outside(0, 3)) {
            refuse(all, "day(0, " + what + ")", BAD, x -> x.day(0, what));
            refuse(all, "now(" + what + ")", BAD, x -> x.now(what));
        }
        return all;
    }

    private static List<Refused> badPlanCalls(Situation at) {
        List<Refused> all = new ArrayList<>();
        for (int what : outside(0, 2)) {
            refuse(all, "plan(-1, 0, 0, " + what + ")", BAD, x -> x.plan(-1, 0, 0, what));
        }
        for (int what : outside(0, 1)) {
            refuse(all, "least(0, " + what + ")", BAD, x -> x.least(0, what));
            refuse(all, "needless(-1, 0, " + what + ")", BAD, x -> x.needless(-1, 0, what));
            refuse(all, "needless(0, -1, " + what + ")", BAD, x -> x.needless(0, -1, what));
            refuse(all, "buy(-1, 0, " + what + ")", BAD, x -> x.buy(-1, 0, what));
            refuse(all, "buy(0, -1, " + what + ")", BAD, x -> x.buy(0, -1, what));
            refuse(all, "allGo(" + what + ")", BAD, x -> x.allGo(what));
            refuse(all, "keep(" + what + ")", BAD, x -> x.keep(what));
            refuse(all, "back(" + what + ")", BAD, x -> x.back(what));
        }
        for (int h : outside(0, 1000)) {
            refuse(all, "least(" + h + ", 0)", BAD, x -> x.least(h, 0));
            refuse(all, "least(" + h + ", 1)", BAD, x -> x.least(h, 1));
        }
        for (int i : outside(-1, at.things() - 1)) {
            refuse(all, "pack(-1, 0, " + i + ")", BAD, x -> x.pack(-1, 0, i));
            refuse(all, "pack of none, " + i, BAD, x -> x.pack(0, -1, i));
        }
        for (int i = 0; i < 6; i++) {
            int it = i;
            refuse(all, "pack of all but " + i, BAD, x -> x.pack(~(1 << it), 0, it));
        }
        return all;
    }

    private static List<Refused> otherBadCalls() {
        List<Refused> all = new ArrayList<>();
        int[] least = {0, 1, 1};
        int[] most = {999, 4, 999};
        for (int what = 0; what < 3; what++) {
            int it = what;
            for (int v : outside(least[what], most[what])) {
                refuse(all, "tune(" + what + ", " + v + ")", BAD, x -> x.tune(it, v));
            }
        }
        for (int what : outside(0, 2)) {
            refuse(all, "tune(" + what + ", 1)", BAD, x -> x.tune(what, 1));
        }
        for (int number : outside(0, 99)) {
            refuse(all, "list(" + number + ", 0)", BAD, x -> x.list(number, 0));
            refuse(all, "list(" + number + ", itself)", BAD, x -> x.list(number, number));
            refuse(all, "list(99, " + number + ")", BAD, x -> x.list(99, number));
        }
        for (int had = 0; had < 99; had += 7) {
            int it = had;
            refuse(all, "list, one more on than had: " + had, BAD, x -> x.list(it, it + 1));
        }
        for (int what : outside(0, 4)) {
            refuse(all, "span(" + what + ")", BAD, x -> x.span(what));
        }
        for (int what : outside(0, 5)) {
            refuse(all, "count(" + what + ")", BAD, x -> x.count(what));
            refuse(all, "use(" + what + ", 0)", NO, x -> x.use(what, 0));
        }
        return all;
    }

    private static List<Refused> badLives(Situation at) {
        List<Refused> all = new ArrayList<>();
        for (int i : outside(0, at.things() - 1)) {
            refuse(all, "live(" + i + ", 1, 0, 0)", BAD, x -> x.live(i, 1, 0, 0));
            refuse(all, "live(0, " + i + ", 0, 0)", BAD, x -> x.live(0, i, 0, 0));
        }
        for (int bit : outside(0, 1)) {
            refuse(all, "live(0, 1, " + bit + ", 0)", BAD, x -> x.live(0, 1, bit, 0));
            refuse(all, "live(0, 1, 0, " + bit + ")", BAD, x -> x.live(0, 1, 0, bit));
        }
        refuse(all, "a bottom as a top", BAD, x -> x.live(1, 1, 0, 0));
        refuse(all, "a top as a bottom", BAD, x -> x.live(0, 0, 0, 0));
        refuse(all, "a coat as a top", BAD, x -> x.live(2, 1, 0, 0));
        refuse(all, "a coat as a bottom", BAD, x -> x.live(0, 2, 0, 0));
        return all;
    }

    /** Refused with STATE, FULL or a FAULT, for what the situation is; BAD comes first where both would do. */
    private static List<Refused> refusedThere(Situation at) {
        List<Refused> all = new ArrayList<>();
        switch (at.name()) {
            case "new":
                refuse(all, "back(0), none kept", STATE, x -> x.back(0));
                refuse(all, "back(1), none kept", STATE, x -> x.back(1));
                refuse(all, "again without days", STATE, x -> x.again(0));
                break;
            case "without a journey":
                refuse(all, "back(0), 1 kept", STATE, x -> x.back(0));
                refuse(all, "again without days", STATE, x -> x.again(-1));
                break;
            case "with a journey":
                refuse(all, "wash where one may, wear what is apart", STATE, x -> x.live(3, 4, 1, 0));
                refuse(all, "needless of none", STATE, x -> x.needless(0, 0, 0));
                refuse(all, "never of none", STATE, x -> x.needless(0, 0, 1));
                refuse(all, "pack of none", STATE, x -> x.pack(0, 0, -1));
                refuse(all, "pack of one", STATE, x -> x.pack(1, 0, 0));
                break;
            case "under way":
                refuse(all, "back(1), 0 kept", STATE, x -> x.back(1));
                refuse(all, "live what is wet", STATE, x -> x.live(0, 5, 0, 0));
                refuse(all, "live what is at home", STATE, x -> x.live(3, 5, 0, 0));
                refuse(all, "a text that ends too early", -10 - 53, x -> x.journey());
                break;
            case "full":
                refuse(all, "type one beyond 500", FULL, x -> x.type('x', 1));
                refuse(all, "type eight beyond 500", FULL, x -> x.type(-1L, 8));
                refuse(all, "a list beyond twenty", FULL, x -> x.list(0, 0));
                refuse(all, "a list beyond twenty, the most", FULL, x -> x.list(99, 99));
                refuse(all, "a text with a seventh thing", -10 - 497, x -> x.journey());
                refuse(all, "live when the journey is over", STATE, x -> x.live(0, 1, 0, 0));
                refuse(all, "live and wash when the journey is over", STATE, x -> x.live(0, 1, 1, 1));
                break;
            case "hopeless":
                refuse(all, "needless", STATE, x -> x.needless(7, 0, 0));
                refuse(all, "pack", STATE, x -> x.pack(7, 0, -1));
                refuse(all, "pack, a thing", STATE, x -> x.pack(7, 0, 2));
                refuse(all, "a ; alone", -10, x -> x.journey());
                break;
            default:
                refuse(all, "live without days", STATE, x -> x.live(0, 1, 0, 0));
                refuse(all, "again without days", STATE, x -> x.again(15));
                break;
        }
        return all;
    }

    // ---- calls that only ask

    private static List<Refused> questions(Situation at) {
        PackedCase y = at.maker().get();
        List<Refused> all = new ArrayList<>();
        for (int set : new int[] {0, 3, 0b111011, -1, Integer.MIN_VALUE}) {
            for (int weather : new int[] {0, 5, -1}) {
                refuse(all, "serves", y.serves(set, weather), x -> x.serves(set, weather));
                refuse(all, "plan", y.plan(set, weather, 1, 2), x -> x.plan(set, weather, 1, 2));
                refuse(all, "needless", y.needless(set, weather, 0), x -> x.needless(set, weather, 0));
                refuse(all, "never", y.needless(set, weather, 1), x -> x.needless(set, weather, 1));
                refuse(all, "buy", y.buy(set, weather, 0), x -> x.buy(set, weather, 0));
                refuse(all, "desk", y.desk(set, weather), x -> x.desk(set, weather));
                refuse(all, "pack", y.pack(set, weather, -1), x -> x.pack(set, weather, -1));
            }
            refuse(all, "odds", y.odds(set), x -> x.odds(set));
            refuse(all, "again", y.again(set), x -> x.again(set));
        }
        refuse(all, "light", y.least(900, 0), x -> x.least(900, 0));
        refuse(all, "small", y.least(900, 1), x -> x.least(900, 1));
        refuse(all, "all go", y.allGo(0), x -> x.allGo(0));
        return all;
    }

    private static void changesNothing(Situation at, List<Refused> calls, String unchanged) {
        PackedCase afterAll = at.maker().get();
        int some = 0;
        for (Refused one : calls) {
            PackedCase x = at.maker().get();
            due(at.name() + ": " + one.name(), one.call().applyAsLong(x), one.due());
            same(at.name() + ", after " + one.name(), everything(x), unchanged);
            due(at.name() + ", one after another: " + one.name(), one.call().applyAsLong(afterAll), one.due());
            some++;
            // An object is used for 512 calls at most.
            if (some % 60 == 0) {
                same(at.name() + ", after many", everything(afterAll), unchanged);
                afterAll = at.maker().get();
            }
        }
        same(at.name() + ", after the last", everything(afterAll), unchanged);
    }

    /** Nothing that has no plan, no set, no list or no room is an error, nor does it change anything. */
    private static List<Refused> noneCalls() {
        List<Refused> all = new ArrayList<>();
        refuse(all, "no plan: plan", NONE, x -> x.plan(-1, 0, 1, 2));
        refuse(all, "no plan: buy", NONE, x -> x.buy(0, 0, 0));
        refuse(all, "no plan: buy, prices", NONE, x -> x.buy(-1, -1, 1));
        refuse(all, "no plan: desk", NONE, x -> x.desk(-1, 0));
        refuse(all, "no set by 1", NONE, x -> x.least(1, 0));
        refuse(all, "no set by 1000", NONE, x -> x.least(1000, 1));
        refuse(all, "no lists: least", NONE, x -> x.span(0));
        refuse(all, "no lists: greatest", NONE, x -> x.span(1));
        refuse(all, "no lists: middle", NONE, x -> x.span(2));
        return all;
    }

    public static void main(String[] args) {
        for (Situation at : situations()) {
            String unchanged = everything(at.maker().get());
            List<Refused> calls = new ArrayList<>();
            calls.addAll(badJourneyCalls(at));
            calls.addAll(badPlanCalls(at));
            calls.addAll(otherBadCalls());
            calls.addAll(badLives(at));
            calls.addAll(refusedThere(at));
            calls.addAll(questions(at));
            if (at.name().equals("hopeless")) {
                calls.addAll(noneCalls());
            }
            changesNothing(at, calls, unchanged);
        }
        end("refusals");
    }
}
