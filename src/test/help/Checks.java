/** What the project's tests share: they tell what is due, and count what is wrong. */
abstract class Checks {
    static final int BAD = PackedCase.BAD, STATE = PackedCase.STATE, FULL = PackedCase.FULL;
    static final int NONE = PackedCase.NONE, NO = PackedCase.NO;
    static final String TOP = "top 0 0 1 1 0 1;", BOTTOM = "bottom 0 0 1 1 0 1;", COAT = "coat 0 0 1 1 0;";
    static final String TOP_FOR_2 = "top 0 0 1 1 0 2;", BOTTOM_FOR_2 = "bottom 0 0 1 1 0 2;", DAY = "day 0 0;";
    private static int wrong = 0;
    private static int asked = 0;

    static void due(String what, long got, long want) {
        asked++;
        if (got != want) {
            tellWrong(what + " answered " + got + ", due is " + want);
        }
    }

    static void same(String what, String got, String want) {
        asked++;
        if (!got.equals(want)) {
            tellWrong(what + ":\n  " + got + "\n  is not what is due:\n  " + want);
        }
    }

    private static void tellWrong(String what) {
        wrong++;
        if (wrong < 100) {
            System.out.println(what);
        }
    }

    /** Eight bytes a call, so that long texts leave calls to ask with. */
    static void type(PackedCase x, String text) {
        int start = 0;
        while (start < text.length()) {
            int n = Math.min(8, text.length() - start);
            long v = 0;
            for (int k = 0; k < n; k++) {
                v = v << 8 | text.charAt(start + k);
            }
            x.type(v, n);
            start += n;
        }
    }

    static PackedCase of(String text) {
        PackedCase x = new PackedCase();
        read(x, text);
        return x;
    }

    /** The text becomes the journey of an object that may have one already. */
    static void read(PackedCase x, String text) {
        x.clear();
        type(x, text);
        due("bytes typed of '" + text + "'", x.count(3), text.length());
        int items = x.journey();
        if (items < 0) {
            tellWrong("a test's own journey is faulty: " + text + ": " + items);
        }
    }

    static void fault(String text, int place) {
        PackedCase x = new PackedCase();
        type(x, text);
        due("journey of '" + text + "'", x.journey(), -10 - place);
        due("bytes kept of '" + text + "'", x.count(3), text.length());
        due("things after '" + text + "'", x.count(0), 0);
        due("days after '" + text + "'", x.count(1), 0);
    }

    static void items(String text, int items) {
        PackedCase x = new PackedCase();
        type(x, text);
        due("journey of '" + text + "'", x.journey(), items);
        due("bytes left of '" + text + "'", x.count(3), 0);
    }

    /** What the first plan has on each day: top, bottom, washing, three digits a day. */
    static void planned(PackedCase x, int set, int weather, String plan) {
        for (int d = 0; 3 * d < plan.length(); d++) {
            for (int what = 0; what < 3; what++) {
                due("plan(" + set + ", " + weather + ", " + d + ", " + what + ")",
                    x.plan(set, weather, d, what), plan.charAt(3 * d + what) - '0');
            }
        }
    }

    static void end(String name) {
        System.out.println(name + ": " + asked + " answers, " + wrong + " wrong");
        if (wrong != 0) {
            System.exit(1);
        }
    }
}
