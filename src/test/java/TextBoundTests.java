import java.util.ArrayList;
import java.util.List;

/** The bounds of what a text may tell (Terms; promises 2 to 7): at each bound, one below it, one beyond it. */
public final class TextBoundTests extends Checks {
    private static final String ALL_WORDS = "top bottom coat late apart day wash rain";

    // ---- THE TEXT: 500 bytes

    private static PackedCase withBytes(int n) {
        PackedCase x = new PackedCase();
        type(x, " ".repeat(n));
        due("bytes typed", x.count(3), n);
        return x;
    }

    private static void roomInTheText() {
        for (int n = 1; n <= 8; n++) {
            PackedCase x = withBytes(499 - n);
            due("type " + n + ", one below 500", x.type(0x2020202020202020L, n), 499);
            x = withBytes(500 - n);
            due("type " + n + " up to 500", x.type(0x2020202020202020L, n), 500);
            due("type one beyond", x.type(' ', 1), FULL);
            due("still 500", x.count(3), 500);
            x = withBytes(501 - n);
            due("type " + n + ", one beyond 500", x.type(0x2020202020202020L, n), FULL);
            due("nothing of it came", x.count(3), 501 - n);
            due("nor is the text another", x.journey(), 0);
            due("empty then", x.count(3), 0);
            due("room again", x.type(0x2020202020202020L, n), n);
        }
        PackedCase x = withBytes(500);
        due("clear 500", x.clear(), 500);
        due("clear none", x.clear(), 0);
        due("room again", x.type(' ', 1), 1);
        due("clear one", x.clear(), 1);
    }

    private static void bytesOfANumber() {
        long v = 0x20_64_61_79_32_31_20_39L;
        for (int n = 1; n <= 8; n++) {
            PackedCase x = new PackedCase();
            due("type the lowest " + n, x.type(v, n), n);
            due("type the lowest of all bits", x.type(-1L << 8 | ';', 1), n + 1);
            int[] answers = {-10, -11, -10, -10, -10, -10, 1, 1};
            due("journey of the lowest " + n, x.journey(), answers[n - 1]);
            due("its WARM", x.day(0, 0), n < 7 ? BAD : 21);
            due("its FINE", x.day(0, 1), n < 7 ? BAD : 9);
        }
        PackedCase x = new PackedCase();
        due("0", x.type(0L, 8), 8);
        due("a byte 0 begins no token", x.journey(), -10);
        x.clear();
        due("the least long", x.type(Long.MIN_VALUE, 8), 8);
        due("its highest byte first", x.journey(), -10);
        x.clear();
        due("the least long's lowest seven", x.type(Long.MIN_VALUE | 0x20202020202020L, 7), 7);
        due("are blanks", x.journey(), 0);
    }

    private static void journeysOf500() {
        items(" ".repeat(499), 0);
        items(" ".repeat(500), 0);
        items(" ".repeat(491) + DAY, 1);
        items(" ".repeat(492) + DAY, 1);
        items(DAY + " ".repeat(492), 1);
        fault(" ".repeat(499) + ";", 499);
        fault(" ".repeat(498) + ";", 498);
        fault(" ".repeat(493) + "day 0 0", 500);
        fault(" ".repeat(492) + "day 0 0", 499);
        fault("day 0 0" + " ".repeat(493), 500);
        fault(";".repeat(500), 0);
        fault(" ".repeat(496) + "9999", 496);
        fault("d".repeat(500), 0);
        fault("0".repeat(500), 0);
        String full = " ".repeat(492) + DAY;
        PackedCase x = of(full);
        due("days of 500 bytes", x.count(1), 1);
    }

    // ---- TOKENS and blanks

    /** Bytes ahead of all, behind a word, behind a number: what each of them is there. */
    private static void everyByte() {
        for (int b = 0; b < 256; b++) {
            String sign = "" + (char) b;
            boolean letter = b >= 'a' && b <= 'z';
            boolean digit = b >= '0' && b <= '9';
            boolean blank = b == ' ';
            if (blank) {
                items(sign, 0);
                items(sign + DAY + sign, 1);
            } else {
                fault(sign, 0);
                fault(DAY + sign, 8);
            }
            fault("day" + sign, letter ? 0 : digit || blank ? 4 : 3);
            fault("day 1" + sign, digit || blank ? 6 : 5);
            if (b == ';') {
                items("day 1 1" + sign, 1);
            } else {
                fault("day 1 1" + sign, blank ? 8 : digit ? 6 : 7);
            }
        }
    }

    private static void blanks() {
        String[] tokens = {"top", "0", "0", "1", "1", "0", "1", "late", ";", "bottom", "0", "0", "1", "1", "0", "1", ";",
            "apart", "0", "1", ";", "day", "0", "0", "wash", "rain", "5", ";"};
        for (int most = 0; most < 4; most++) {
            StringBuilder s = new StringBuilder(" ".repeat(most));
            for (int k = 0; k < tokens.length; k++) {
                boolean twoNumbers = k > 0 && isNumber(tokens[k]) && isNumber(tokens[k - 1]);
                boolean twoWords = k > 0 && isWord(tokens[k]) && isWord(tokens[k - 1]);
                s.append(" ".repeat(twoNumbers || twoWords ? Math.max(most, 1) : most)).append(tokens[k]);
            }
            items(s + " ".repeat(most), 4);
        }
        fault("top0 0 1 1 01;", 11);
        fault("day 0 0washrain 5;", 7);
        fault("day1 1;day11;", 12);
        fault("da y 0 0;", 0);
        items("day 2 7;", 1);
        fault("day 2 7 ;7", 9);
    }

    private static boolean isNumber(String token) {
        return Character.isDigit(token.charAt(0));
    }

    private static boolean isWord(String token) {
        return Character.isLetter(token.charAt(0));
    }

    private static void words() {
        for (String word : ALL_WORDS.split(" ")) {
            for (int k = 0; k < word.length(); k++) {
                fault(DAY + " " + word.substring(0, k) + (char) (word.charAt(k) - 1) + word.substring(k + 1), 9);
                fault("day 0 0 " + word.substring(0, k) + (char) (word.charAt(k) + 1) + word.substring(k + 1), 8);
            }
            for (int k = 1; k < word.length(); k++) {
                fault(" " + word.substring(0, k), 1);
                fault("day 0 0 " + word.substring(k) + ";", 8);
            }
            fault(word + "s", 0);
            fault("z" + word, 0);
            fault(word + word, 0);
            fault(word.toUpperCase(), 0);
            boolean begins = "top bottom coat apart day".contains(word);
            fault(word, begins ? word.length() : 0);
            fault(word + ";", begins ? word.length() : 0);
        }
        fault("day 0 0 late;", 8);
        fault(TOP + "coat 1 1 1 1 1 late;", 31);
        fault("top 0 0 1 1 0 1 rain 5;", 16);
        fault("day 0 0 rain 5 rain 5;", 15);
        fault("day wash 0 0;", 4);
        fault("day 0 rain 5;", 6);
    }

    /** NUMBERS up to 99, none with a 0 ahead of others; what is read is read whole, however long. */
    private static void numbers() {
        items("coat 0 0 1 98 9;", 1);
        items("coat 0 0 1 99 10;", 1);
        fault("coat 0 0 1 100 10;", 11);
        fault("coat 0 0 1 101 10;", 11);
        fault("coat 0 0 1 990 10;", 11);
        fault("coat 0 0 00 1 10;", 9);
        fault("coat 0 0 01 1 10;", 9);
        fault("coat 00 0 1 1 10;", 5);
        fault("coat 0 0 1 1 099;", 13);
        fault("coat 0 0 1 1 000;", 13);
        String[] wraps = {"257", "65537", "4294967297", "42949672960", "18446744073709551617", "2147483648", "2147483649",
            "340282366920938463463374607431768211457", "1".repeat(100)};
        for (String number : wraps) {
            fault("coat 0 0 " + number + " 1 0;", 9);
            fault(DAY + "day 0 0 rain " + number + ";", 21);
            fault(number, 0);
        }
    }

    // ---- the numbers of items

    private static String itemOf(String word, int[] values) {
        StringBuilder s = new StringBuilder(word);
        for (int value : values) {
            s.append(' ').append(value);
        }
        return s.append(';').toString();
    }

    private static int placeOf(String word, int[] values, int field) {
        StringBuilder s = new StringBuilder(word);
        for (int k = 0; k < field; k++) {
            s.append(' ').append(values[k]);
        }
        return s.length() + 1;
    }

    private static void numbersOf(String word, int[] least, int[] most) {
        boolean thing = !word.equals("day");
        for (int field = 0; field < least.length; field++) {
            for (int value = least[field]; value <= most[field]; value++) {
                int[] values = least.clone();
                values[field] = value;
                PackedCase x = of(itemOf(word, values));
                int told = thing ? x.thing(0, field + 1) : x.day(0, field);
                due(word + "'s number " + field, told, value);
            }
            int[] values = most.clone();
            int place = placeOf(word, values, field);
            values[field] = most[field] + 1;
            fault(itemOf(word, values), place);
            if (least[field] > 0) {
                values[field] = least[field] - 1;
                fault(itemOf(word, values), place);
            }
            values[field] = -1;
            fault(itemOf(word, values), place);
        }
        fault(word, word.length());
        fault(word + ";", word.length());
        int[] values = least.clone();
        for (int field = 1; field < least.length; field++) {
            String begun = itemOf(word, values).substring(0, placeOf(word, values, field) - 1);
            fault(begun, begun.length());
            fault(begun + "  ", begun.length() + 2);
            fault(begun + ";", begun.length());
            fault(begun + " ;", begun.length() + 1);
            fault(begun + " day", begun.length() + 1);
        }
        String whole = itemOf(word, least);
        String open = whole.substring(0, whole.length() - 1);
        fault(open, open.length());
        fault(open + " 0;", open.length() + 1);
        fault(open + " top", open.length() + 1);
        fault(open + ";;", open.length() + 1);
    }

    private static void itemNumbers() {
        int[] least = {0, 0, 1, 1, 0, 1};
        int[] most = {9, 9, 99, 99, 99, 2};
        numbersOf("top", least, most);
        numbersOf("bottom", least, most);
        numbersOf("coat", new int[] {0, 0, 1, 1, 0}, new int[] {9, 9, 99, 99, 99});
        numbersOf("day", new int[] {0, 0}, new int[] {27, 9});
        PackedCase x = of("top 9 9 99 99 99 2 late;bottom 0 0 1 1 0 1;coat 9 9 99 99 99;day 27 9 wash rain 10;day 0 0;");
        int[][] facts = {{0, 9, 9, 99, 99, 99, 2, 1, 0}, {1, 0, 0, 1, 1, 0, 1, 0, 0}, {2, 9, 9, 99, 99, 99, 0, 0, 0}};
        for (int i = 0; i < 3; i++) {
            for (int what = 0; what < 9; what++) {
                due("thing " + i + ", " + what, x.thing(i, what), facts[i][what]);
            }
        }
        int[][] wants = {{27, 9, 1, 10}, {0, 0, 0, 0}};
        for (int d = 0; d < 2; d++) {
            for (int what = 0; what < 4; what++) {
                due("day " + d + ", " + what, x.day(d, what), wants[d][what]);
            }
        }
    }

    private static void rain() {
        for (int r = 0; r <= 10; r++) {
            due("rain " + r, of("day 0 0 rain " + r + ";").day(0, 3), r);
            due("wash, rain " + r, of("day 0 0 wash rain " + r + ";").day(0, 3), r);
        }
        fault("day 0 0 rain 11;", 13);
        fault("day 0 0 rain -1;", 13);
        fault("day 0 0 rain;", 12);
        fault("day 0 0 rain ;", 13);
        fault("day 0 0 rain", 12);
        fault("day 0 0 wash", 12);
        fault("day 0 0 wash rain 10", 20);
    }

    /** By 1 .. 9 of ten it rains on four days at most, wherever they stand. */
    private static void uncertainDays() {
        for (int r = 1; r <= 9; r++) {
            String unsure = "day 0 0 rain " + r + ";";
            items(unsure.repeat(3) + DAY, 4);
            items(unsure.repeat(4), 4);
            fault(unsure.repeat(5), 4 * unsure.length() + 13);
            items(unsure.repeat(4) + "day 0 0 rain 0;day 0 0 rain 10;" + DAY, 7);
            items("day 0 0 rain 0;day 0 0 rain 10;" + unsure.repeat(4) + "day 0 0 rain 10;day 0 0 rain 0;", 8);
            String mixed = "day 0 0 rain 1;day 0 0 rain 10;day 0 0 rain 9;day 0 0 rain 0;day 0 0 rain 5;day 0 0;day 0 0 rain 1;";
            fault(mixed + unsure, mixed.length() + 13);
        }
        String four = "day 0 0 rain 5;".repeat(4);
        items(four + "day 0 0 rain 0;", 5);
        items(four + "day 0 0 rain 10;", 5);
        fault(four + "day 0 0 rain 11;", four.length() + 13);
        fault(four + "day 0 0 rain;", four.length() + 12);
        fault(four + "day 0 0 rain 1", four.length() + 13);
        PackedCase x = of(four);
        read(x, four);
        due("another four", x.count(1), 4);
    }

    // ---- how many THINGS and DAYS

    private static void sixThings() {
        String[] kinds = {TOP, BOTTOM, COAT};
        String[] words = {"top", "bottom", "coat"};
        for (int kind = 0; kind < 3; kind++) {
            for (int n = 1; n <= 6; n++) {
                PackedCase x = of(kinds[kind].repeat(n));
                due("things", x.count(0), n);
                due("the last one", x.thing(n - 1, 0), kind);
                due("one beyond", x.thing(n, 0), BAD);
                due("the set is all", x.now(1), (1 << n) - 1);
                due("all are fresh", x.now(2), (1 << n) - 1);
            }
            String five = TOP + COAT + BOTTOM + TOP + COAT;
            items(five + kinds[kind], 6);
            String six = five + kinds[kind];
            for (int seventh = 0; seventh < 3; seventh++) {
                fault(six + kinds[seventh], six.length());
                fault(six + " " + words[seventh], six.length() + 1);
                fault(six + DAY + words[seventh] + " 99", six.length() + DAY.length());
            }
        }
    }

    private static void eightDays() {
        for (int n = 1; n <= 8; n++) {
            PackedCase x = of(DAY.repeat(n - 1) + "day 3 4 wash rain 10;");
            due("days", x.count(1), n);
            due("the last one", x.day(n - 1, 0), 3);
            due("its rain", x.day(n - 1, 3), 10);
            due("one beyond", x.day(n, 0), BAD);
            due("not over", x.now(3), 0);
        }
        fault(DAY.repeat(9), 64);
        fault(DAY.repeat(8) + " day", 65);
        fault(DAY.repeat(8) + "day 99", 64);
        fault(DAY.repeat(8) + TOP + "day", 64 + TOP.length());
        String most = TOP.repeat(6) + DAY.repeat(8);
        items(most, 14);
        items(most + "apart 0 5;", 15);
        fault(most + "day", most.length());
        fault(most + "top", most.length());
        items(TOP + TOP + "apart 0 1;".repeat(46), 48);
    }

    // ---- APART

    private static void apart() {
        fault("apart 0 1;", 6);
        fault("apart 0 0;" + TOP, 6);
        fault("apart", 5);
        for (int n = 1; n <= 6; n++) {
            String things = TOP.repeat(n);
            int begin = things.length();
            fault(things + "apart " + n + " 0;", begin + 6);
            fault(things + "apart 0 " + n + ";", begin + 8);
            fault(things + "apart " + (n - 1) + " " + (n - 1) + ";", begin + 8);
            fault(things + "apart 0 0;", begin + 8);
            fault(things + "apart 0 99;", begin + 8);
            fault(things + "apart 0 100;", begin + 8);
            fault(things + "apart 0 ;", begin + 8);
            fault(things + "apart 0", begin + 7);
            fault(things + "apart;", begin + 5);
            fault(things + "apart 0 -1;", begin + 8);
            if (n > 1) {
                PackedCase x = of(things + "apart " + (n - 1) + " 0;");
                due("apart", x.goes(0, n - 1), 0);
                due("apart the other way", x.goes(n - 1, 0), 0);
                due("no other is", n > 2 ? x.goes(0, 1) : 1, 1);
                fault(things + "apart 0 1 0;", begin + 10);
                fault(things + "apart 0 1", begin + 9);
                fault(things + DAY + "apart 0 1 day", begin + 18);
            }
        }
        fault(TOP + "apart 0 1;" + TOP, TOP.length() + 8);
        items(TOP + TOP + "apart 0 1;apart 0 1;apart 1 0;", 5);
        eachPair();
    }

    private static void eachPair() {
        for (int i = 0; i < 6; i++) {
            for (int j = 0; j < 6; j++) {
                if (i == j) {
                    continue;
                }
                PackedCase x = of(TOP + BOTTOM + COAT + TOP + BOTTOM + COAT + "apart " + i + " " + j + ";");
                for (int a = 0; a < 6; a++) {
                    for (int b = 0; b < 6; b++) {
                        boolean told = a == i && b == j || a == j && b == i;
                        due("goes(" + a + ", " + b + ")", x.goes(a, b), a == b ? BAD : told ? 0 : 1);
                    }
                }
            }
        }
    }

    // ---- a text that ends too early, none at all, a fault behind much that is right

    private static void prefixes() {
        String[] tokens = {"top", " 1", " 2", " 3", " 4", " 5", " 1", " late", ";", "bottom", " 9", " 9", " 9", " 9", " 9",
            " 2", ";", "coat", " 9", " 9", " 9", " 9", " 9", ";", "apart", " 0", " 2", ";", "day", " 9", " 9", " wash",
            " rain", " 9", ";"};
        List<Integer> ends = new ArrayList<>(List.of(0));
        StringBuilder s = new StringBuilder();
        int items = 0;
        for (String token : tokens) {
            s.append(token);
            items += token.equals(";") ? 1 : 0;
            ends.add(s.length());
            for (int blanks = 0; blanks < 3; blanks++) {
                String text = s + " ".repeat(blanks);
                if (token.equals(";")) {
                    items(text, items);
                } else {
                    fault(text, text.length());
                }
            }
            if (!token.equals(";")) {
                fault(s + "?", s.length());
                fault(s + " coats", s.length() + 1);
                fault(s + " 100", s.length() + 1);
                fault(s + " 01", s.length() + 1);
            }
        }
        due("as many ends as tokens", ends.size(), tokens.length + 1);
    }

    private static void noItems() {
        items("", 0);
        items(" ", 0);
        PackedCase x = of(TOP + BOTTOM + DAY);
        x.keep(0);
        due("an empty text", x.journey(), 0);
        due("no things", x.count(0), 0);
        due("no days", x.count(1), 0);
        due("no set", x.now(1), 0);
        due("over", x.now(3), 1);
        due("no image", x.back(0), STATE);
        due("weight of none", x.count(4), 0);
        due("size of none", x.count(5), 0);
        read(x, "   ");
        due("no things still", x.count(0), 0);
        read(x, DAY);
        due("days without things", x.count(1), 1);
        due("not over", x.now(3), 0);
        read(x, TOP);
        due("things without days", x.count(0), 1);
        due("the days are gone", x.count(1), 0);
        due("over at once", x.now(3), 1);
    }

    /** What was read ahead of a fault leaves no trace in the next journey. */
    private static void afterAFault() {
        String much = "top 1 1 1 1 1 2 late;bottom 1 1 1 1 1 2 late;coat 9 9 9 9 9;apart 0 1;"
            + "day 1 1 wash rain 1;day 1 1 rain 2;day 1 1 rain 3;day 1 1 rain 4;";
        PackedCase x = new PackedCase();
        type(x, much + "day 0 0 rain 5;");
        due("a fifth such rain", x.journey(), -10 - much.length() - 13);
        due("again the same", x.journey(), -10 - much.length() - 13);
        due("cleared", x.clear(), much.length() + 15);
        read(x, TOP + BOTTOM + DAY + "day 0 0 rain 5;".repeat(4));
        due("things", x.count(0), 2);
        due("days", x.count(1), 5);
        due("together", x.goes(0, 1), 1);
        due("late", x.thing(0, 7), 0);
        due("wash", x.day(0, 2), 0);
        due("rain", x.day(0, 3), 0);
        type(x, much + ";");
        due("a ; too many", x.journey(), -10 - much.length());
        due("things stay", x.count(0), 2);
        due("days stay", x.count(1), 5);
        due("the text stays", x.count(3), much.length() + 1);
        x.clear();
        type(x, much);
        due("without it", x.journey(), 8);
        due("things then", x.count(0), 3);
        due("apart then", x.goes(0, 1), 0);
    }

    /** Nor does the journey before: a thing or a day of the same number may be quite another. */
    private static void anotherJourney() {
        PackedCase x = of("top 9 9 99 99 99 2 late;bottom 9 9 99 99 99 2 late;top 9 9 99 99 99 2 late;apart 0 1;apart 1 2;"
            + "day 27 9 wash rain 9;day 27 9 wash rain 10;");
        due("odds before", x.odds(7), 0);
        due("light before", x.least(1, 0), NONE);
        read(x, COAT + TOP + BOTTOM + DAY);
        due("a coat now", x.thing(0, 0), 2);
        due("that lasts no days", x.thing(0, 6), 0);
        due("and does not dry late", x.thing(0, 7), 0);
        due("a coat is no top", x.live(0, 2, 0, 0), BAD);
        due("a top is no bottom", x.live(1, 1, 0, 0), BAD);
        due("a bottom is no top", x.live(2, 2, 0, 0), BAD);
        due("odds now", x.odds(7), 10000);
        due("light now", x.least(1000, 0), 6);
        due("no wash now", x.live(1, 2, 1, 0), STATE);
        due("together now", x.live(1, 2, 0, 1), 1);
        due("dry under the coat, and dirty", x.thing(1, 8), 2);
        read(x, TOP_FOR_2 + BOTTOM_FOR_2 + TOP + DAY);
        due("no coat now", x.live(0, 1, 0, 1), 1);
        due("wet", x.thing(0, 8), 3);
        due("wet, too", x.thing(1, 8), 3);
        read(x, TOP + BOTTOM + "day 0 0 wash;");
        due("odds of two", x.odds(7), 10000);
        due("lasts 1 now", x.live(0, 1, 0, 0), 1);
        due("dirty", x.thing(0, 8), 2);
        x.packs(3);
        due("washed", x.live(0, 1, 1, 0), 1);
        due("soon dry", x.thing(1, 8), 0);
        read(x, TOP + TOP + DAY);
        due("no odds now", x.odds(3), 0);
        due("nothing serves now", x.least(1, 1), NONE);
    }

    public static void main(String[] args) {
        roomInTheText();
        bytesOfANumber();
        journeysOf500();
        everyByte();
        blanks();
        words();
        numbers();
        itemNumbers();
        rain();
        uncertainDays();
        sixThings();
        eightDays();
        apart();
        prefixes();
        noItems();
        afterAFault();
        anotherJourney();
        end("bounds of texts");
    }
}
