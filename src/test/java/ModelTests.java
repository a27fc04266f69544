import java.util.ArrayList;
import java.util.Arrays;
import java.util.Collections;
import java.util.HashSet;
import java.util.List;
import java.util.Random;
import java.util.Set;
import java.util.regex.Matcher;
import java.util.regex.Pattern;

/** Random journeys and calls: the class and a model that tries everything out answer the same. */
public final class ModelTests {
    private static final int RUNS = 1500, CALLS = 110;
    private static int wrong = 0;

    /** The document told over again, as plainly as may be; each thing's state is a digit of a text. */
    private static final class Model {
        static final int BAD = -1, STATE = -2, FULL = -3, NONE = -9, NO = -1000000;
        StringBuilder text = new StringBuilder();
        List<int[]> things = new ArrayList<>();
        List<int[]> days = new ArrayList<>();
        Set<String> apart = new HashSet<>();
        int[] tunes = {200, 2, 100};
        int date = 0;
        int set = 0;
        String states = "";
        Object[][] images = new Object[2][];
        List<int[]> lists = new ArrayList<>();
        long trace = 0;

        // ---- the text

        int type(long v, int n) {
            if (n < 1 || n > 8) {
                return BAD;
            }
            if (text.length() + n > 500) {
                return FULL;
            }
            for (int k = 8 - n; k < 8; k++) {
                text.append((char) (v >>> (56 - 8 * k) & 0xff));
            }
            return text.length();
        }

        int clear() {
            int had = text.length();
            text = new StringBuilder();
            return had;
        }

        private static final class Fault extends Exception {
            private static final long serialVersionUID = 1L;
            final int place;

            Fault(int place) {
                this.place = place;
            }
        }

        List<String> tokens;
        List<Integer> places;
        int next;

        String peek() {
            return next < tokens.size() ? tokens.get(next) : "";
        }

        int place() {
            return next < tokens.size() ? places.get(next) : text.length();
        }

        int number(int least, int most, int not) throws Fault {
            String token = peek();
            if (!token.matches("0|[1-9][0-9]?") || Integer.parseInt(token) < least
                || Integer.parseInt(token) > most || Integer.parseInt(token) == not) {
                throw new Fault(place());
            }
            next++;
            return Integer.parseInt(token);
        }

        boolean perhaps(String word) {
            if (!peek().equals(word)) {
                return false;
            }
            next++;
            return true;
        }

        int journey() {
            tokens = new ArrayList<>();
            places = new ArrayList<>();
            Matcher m = Pattern.compile("[a-z]+|[0-9]+|[^ ]", Pattern.DOTALL).matcher(text);
            while (m.find()) {
                tokens.add(m.group());
                places.add(m.start());
            }
            next = 0;
            List<int[]> newThings = new ArrayList<>();
            List<int[]> newDays = new ArrayList<>();
            Set<String> newApart = new HashSet<>();
            int items = 0;
            try {
                while (next < tokens.size()) {
                    item(newThings, newDays, newApart);
                    items++;
                }
            } catch (Fault fault) {
                return -10 - fault.place;
            }
            things = newThings;
            days = newDays;
            apart = newApart;
            text = new StringBuilder();
            packs(-1);
            images = new Object[2][];
            return items;
        }

        void item(List<int[]> newThings, List<int[]> newDays, Set<String> newApart) throws Fault {
            int kind = Arrays.asList("top", "bottom", "coat", "apart", "day").indexOf(peek());
            boolean tooMany = kind >= 0 && kind <= 2 && newThings.size() == 6 || kind == 4 && newDays.size() == 8;
            if (kind < 0 || tooMany) {
                throw new Fault(place());
            }
            next++;
            if (kind <= 2) {
                int[] thing = {kind, number(0, 9, -1), number(0, 9, -1), number(1, 99, -1), number(1, 99, -1),
                    number(0, 99, -1), 0, 0};
                if (kind < 2) {
                    thing[6] = number(1, 2, -1);
                    thing[7] = perhaps("late") ? 1 : 0;
                }
                semicolon();
                newThings.add(thing);
            } else if (kind == 3) {
                int a = number(0, newThings.size() - 1, -1);
                int b = number(0, newThings.size() - 1, a);
                semicolon();
                newApart.add(a + " " + b);
                newApart.add(b + " " + a);
            } else {
                int[] day = {number(0, 27, -1), number(0, 9, -1), perhaps("wash") ? 1 : 0, 0};
                if (perhaps("rain")) {
                    int at = place();
                    day[3] = number(0, 10, -1);
                    long before = newDays.stream().filter(d -> d[3] % 10 != 0).count();
                    if (day[3] % 10 != 0 && before == 4) {
                        throw new Fault(at);
                    }
                }
                semicolon();
                newDays.add(day);
            }
        }

        void semicolon() throws Fault {
            if (!perhaps(";")) {
                throw new Fault(place());
            }
        }

        boolean isThing(int i) {
            return i >= 0 && i < things.size();
        }

        int thing(int i, int what) {
            if (!isThing(i) || what < 0 || what > 8) {
                return BAD;
            }
            return what == 8 ? states.charAt(i) - '0' : things.get(i)[what];
        }

        int goes(int i, int j) {
            return !isThing(i) || !isThing(j) || i == j ? BAD : apart.contains(i + " " + j) ? 0 : 1;
        }

        int day(int d, int what) {
            return d < 0 || d >= days.size() || what < 0 || what > 3 ? BAD : days.get(d)[what];
        }

        int tune(int what, int v) {
            int[] least = {0, 1, 1};
            int[] most = {999, 4, 999};
            if (what < 0 || what > 2 || v < least[what] || v > most[what]) {
                return BAD;
            }
            int was = tunes[what];
            tunes[what] = v;
            return was;
        }

        // ---- the rules of a day

        int all() {
            return (1 << things.size()) - 1;
        }

        boolean in(int s, int i) {
            return (s & 1 << i) != 0;
        }

        boolean hasCoat(int s) {
            for (int i = 0; i < things.size(); i++) {
                if (in(s, i) && things.get(i)[0] == 2) {
                    return true;
                }
            }
            return false;
        }

        /** How all are after a day; null, if it may not be. */
        String lived(int s, String how, int d, int top, int bottom, int wash, boolean rain) {
            int coat = 0;
            for (int i = 0; i < things.size(); i++) {
                if (in(s, i) && things.get(i)[0] == 2) {
                    coat = Math.max(coat, things.get(i)[1]);
                }
            }
            int[] t = things.get(top);
            int[] b = things.get(bottom);
            int[] day = days.get(d);
            boolean may = t[0] == 0 && b[0] == 1 && in(s, top) && in(s, bottom) && goes(top, bottom) == 1
                && t[1] + b[1] + coat >= day[0] && t[2] >= day[1] && b[2] >= day[1] && (wash == 0 || day[2] == 1);
            for (int i : new int[] {top, bottom}) {
                may = may && (how.charAt(i) == '0' || how.charAt(i) == '1' && things.get(i)[6] == 2);
            }
            if (!may) {
                return null;
            }
            char[] then = how.toCharArray();
            for (int i : new int[] {top, bottom}) {
                then[i] = how.charAt(i) == '0' && things.get(i)[6] == 2 ? '1' : '2';
                if (rain && !hasCoat(s) && then[i] != '2') {
                    then[i] = '3';
                }
            }
            for (int i = 0; i < then.length; i++) {
                if (how.charAt(i) == '3') {
                    then[i] = '0';
                } else if (wash == 1 && in(s, i) && (then[i] == '1' || then[i] == '2')) {
                    then[i] = things.get(i)[7] == 1 ? '3' : '0';
                }
            }
            return new String(then);
        }

        int packs(int newSet) {
            int was = set;
            set = newSet & all();
            date = 0;
            states = "0".repeat(things.size());
            return was;
        }

        int live(int top, int bottom, int wash, int rain) {
            if (!isThing(top) || !isThing(bottom) || things.get(top)[0] != 0 || things.get(bottom)[0] != 1
                || wash < 0 || wash > 1 || rain < 0 || rain > 1) {
                return BAD;
            }
            String then = date == days.size() ? null : lived(set, states, date, top, bottom, wash, rain == 1);
            if (then == null) {
                return STATE;
            }
            states = then;
            date++;
            return date;
        }

        int now(int what) {
            int fresh = 0;
            for (int i = 0; i < things.size(); i++) {
                fresh += states.charAt(i) == '0' ? 1 << i : 0;
            }
            int[] all = {date, set, fresh, date == days.size() ? 1 : 0};
            return what < 0 || what > 3 ? BAD : all[what];
        }

        // ---- plans

        /** The first plan from a day on; null: there is none. */
        List<int[]> first(int s, int weather, int d, String how, Set<String> failed) {
            if (d == days.size()) {
                return new ArrayList<>();
            }
            if (failed.contains(d + how)) {
                return null;
            }
            for (int top = 0; top < things.size(); top++) {
                for (int bottom = 0; bottom < things.size(); bottom++) {
                    for (int wash = 0; wash < 2; wash++) {
                        String then = lived(s, how, d, top, bottom, wash, (weather >> d & 1) == 1);
                        List<int[]> rest = then == null ? null : first(s, weather, d + 1, then, failed);
                        if (rest != null) {
                            rest.add(0, new int[] {top, bottom, wash});
                            return rest;
                        }
                    }
                }
            }
            failed.add(d + how);
            return null;
        }

        List<int[]> first(int s, int weather) {
            return first(s & all(), weather, 0, "0".repeat(things.size()), new HashSet<>());
        }

        int serves(int s, int weather) {
            return first(s, weather) != null ? 1 : 0;
        }

        int plan(int s, int weather, int d, int what) {
            if (d < 0 || d >= days.size() || what < 0 || what > 2) {
                return BAD;
            }
            List<int[]> plan = first(s, weather);
            return plan == null ? NONE : plan.get(d)[what];
        }

        int odds(int s) {
            double sum = 0;
            for (int weather = 0; weather < 1 << days.size(); weather++) {
                double chance = 1;
                for (int d = 0; d < days.size(); d++) {
                    double rain = days.get(d)[3] / 10.0;
                    chance *= (weather >> d & 1) == 1 ? rain : 1 - rain;
                }
                if (chance > 0) {
                    sum += chance * serves(s, weather);
                }
            }
            return (int) Math.round(sum * 10000);
        }

        int total(int s, int what) {
            int sum = 0;
            for (int i = 0; i < things.size(); i++) {
                sum += in(s, i) ? things.get(i)[what] : 0;
            }
            return sum;
        }

        int least(int h, int what) {
            if (h < 0 || h > 1000 || what < 0 || what > 1) {
                return BAD;
            }
            int best = NONE;
            for (int s = all(); s >= 0; s--) {
                boolean less = best == NONE || total(s, what == 0 ? 4 : 3) <= total(best, what == 0 ? 4 : 3);
                if (less && odds(s) * 1000 >= h * 10000) {
                    best = s;
                }
            }
            return best;
        }

        int needless(int s, int weather, int what) {
            if (what < 0 || what > 1) {
                return BAD;
            }
            List<int[]> plan = first(s, weather);
            if (plan == null) {
                return STATE;
            }
            int bits = 0;
            for (int i = 0; i < things.size(); i++) {
                int it = i;
                boolean on = things.get(i)[0] == 2 || plan.stream().anyMatch(p -> p[0] == it || p[1] == it);
                boolean yes = what == 0 ? serves(s & ~(1 << i), weather) == 1 : !on;
                bits |= in(s, i) && yes ? 1 << i : 0;
            }
            return bits;
        }

        int buy(int s, int weather, int what) {
            if (what < 0 || what > 1) {
                return BAD;
            }
            if (serves(s, weather) == 1) {
                return 0;
            }
            int best = NONE;
            for (int more = all(); more > 0; more--) {
                boolean less = best == NONE || total(more, 5) <= total(best, 5);
                if (less && (more & s) == 0 && serves(s | more, weather) == 1) {
                    best = more;
                }
            }
            return best == NONE || what == 0 ? best : total(best, 5);
        }

        int desk(int s, int weather) {
            int best = NONE;
            for (int off = all(); off >= 0; off--) {
                boolean fewer = best == NONE || Integer.bitCount(off) <= Integer.bitCount(best);
                boolean part = (off & s) == off;
                if (fewer && part && total(s & ~off, 4) <= tunes[0] && serves(s & ~off, weather) == 1) {
                    best = off;
                }
            }
            return best;
        }

        int pack(int s, int weather, int i) {
            if (i < -1 || i >= things.size() || i >= 0 && !in(s, i)) {
                return BAD;
            }
            List<int[]> plan = first(s, weather);
            if (plan == null) {
                return STATE;
            }
            int n = things.size();
            int[] days1 = new int[n];
            for (int k = 0; k < n; k++) {
                days1[k] = things.get(k)[0] == 2 ? 0 : 99;
                for (int d = plan.size() - 1; d >= 0; d--) {
                    days1[k] = plan.get(d)[0] == k || plan.get(d)[1] == k ? d : days1[k];
                }
            }
            int[] best = null;
            int least = NONE;
            int rows = (int) Math.pow(tunes[1], n);
            for (int code = 0; code < rows; code++) {
                int[] row = new int[n];
                int rest = code;
                for (int k = n - 1; k >= 0; k--) {
                    row[k] = rest % tunes[1];
                    rest /= tunes[1];
                }
                int trouble = trouble(s, row, days1);
                if (trouble >= 0 && (best == null || trouble < least)) {
                    best = row;
                    least = trouble;
                }
            }
            return best == null ? NONE : i == -1 ? least : best[i];
        }

        /** -1: it does not go in. */
        int trouble(int s, int[] row, int[] days1) {
            int trouble = 0;
            int[] sizes = new int[4];
            for (int a = 0; a < row.length; a++) {
                for (int b = 0; b < row.length; b++) {
                    trouble += in(s, a) && in(s, b) && row[a] > row[b] && days1[b] < days1[a] ? 1 : 0;
                }
                sizes[row[a]] += in(s, a) ? things.get(a)[3] : 0;
            }
            return Arrays.stream(sizes).max().getAsInt() > tunes[2] ? -1 : trouble;
        }

        int allGo(int what) {
            if (what < 0 || what > 1) {
                return BAD;
            }
            int best = 0;
            for (int s = all(); s > 0; s--) {
                boolean go = true;
                for (String pair : apart) {
                    go = go && !(in(s, pair.charAt(0) - '0') && in(s, pair.charAt(2) - '0'));
                }
                if (go && Integer.bitCount(s) >= Integer.bitCount(best)) {
                    best = s;
                }
            }
            return what == 0 ? best : Integer.bitCount(best);
        }

        int again(int s) {
            if (days.isEmpty()) {
                return STATE;
            }
            Set<String> hows = new HashSet<>();
            hows.add("0".repeat(things.size()));
            for (int d = 0; d < 9 * days.size(); d++) {
                Set<String> thens = new HashSet<>();
                for (String how : hows) {
                    for (int k = 0; k < 2 * things.size() * things.size(); k++) {
                        int top = k / 2 / things.size();
                        int bottom = k / 2 % things.size();
                        String then = lived(s & all(), how, d % days.size(), top, bottom, k % 2, false);
                        if (then != null) {
                            thens.add(then);
                        }
                    }
                }
                if (thens.isEmpty()) {
                    return d / days.size();
                }
                hows = thens;
            }
            return 9;
        }

        // ---- lists, kinds, images

        int list(int had, int on) {
            if (had < 0 || had > 99 || on < 0 || on > had) {
                return BAD;
            }
            if (lists.size() == 20) {
                return FULL;
            }
            lists.add(new int[] {had, on});
            return lists.size();
        }

        int span(int what) {
            if (what < 0 || what > 4) {
                return BAD;
            }
            List<Integer> on = new ArrayList<>();
            int had = 0;
            int never = 0;
            for (int[] one : lists) {
                on.add(one[1]);
                had += one[0];
                never += one[0] - one[1];
            }
            Collections.sort(on);
            if (what >= 3) {
                int upper = never;
                int lower = had;
                while (upper != 0) {
                    int r = lower % upper;
                    lower = upper;
                    upper = r;
                }
                return had == 0 ? what - 3 : what == 3 ? never / lower : had / lower;
            }
            if (on.isEmpty()) {
                return NONE;
            }
            int n = on.size();
            return what == 0 ? on.get(0) : what == 1 ? on.get(n - 1) : n % 2 == 0 ? on.get(n / 2 - 1) : on.get(n / 2);
        }

        int use(int kind, int i) {
            if (kind < 0 || kind > 5 || !isThing(i)) {
                return NO;
            }
            int[] up = {-1, 0, 0, 1, 2, 0};
            int[] traces = {1, 10, 100, 1000, 10000, 100000};
            int[] t = things.get(i);
            int above = up[kind] < 0 ? 0 : use(up[kind], i);
            trace += traces[kind];
            int[] answers = {t[1], above + t[2], above - t[4], above * 2, above + t[5], above + states.charAt(i) - '0'};
            return answers[kind];
        }

        int keep(int image) {
            if (image < 0 || image > 1) {
                return BAD;
            }
            images[image] = new Object[] {date, states, set};
            return date;
        }

        int back(int image) {
            if (image < 0 || image > 1) {
                return BAD;
            }
            if (images[image] == null) {
                return STATE;
            }
            date = (Integer) images[image][0];
            states = (String) images[image][1];
            set = (Integer) images[image][2];
            return date;
        }

        int count(int what) {
            int[] counts = {things.size(), days.size(), lists.size(), text.length(), total(set, 4), total(set, 3)};
            return what < 0 || what > 5 ? BAD : counts[what];
        }
    }

    /** A random text: most are right, or all but. */
    private static String journey(Random r, int manner) {
        StringBuilder s = new StringBuilder();
        int things = r.nextInt(10) == 0 ? r.nextInt(8) : 4 + r.nextInt(3);
        int days = r.nextInt(10) == 0 ? r.nextInt(10) : 2 + r.nextInt(4);
        int told = 0;
        int hardness = r.nextInt(4);
        while (things > 0 || days > 0) {
            if (things > 0 && (days == 0 || r.nextInt(3) > 0)) {
                int kind = r.nextInt(7);
                s.append(kind < 3 ? "top" : kind < 6 ? "bottom" : "coat").append(gap(r, manner));
                s.append(r.nextInt(6)).append(' ').append(3 + r.nextInt(4)).append(' ').append(1 + r.nextInt(60));
                s.append(' ').append(1 + r.nextInt(60)).append(' ').append(r.nextInt(4) * r.nextInt(10));
                if (kind < 6) {
                    s.append(' ').append(1 + r.nextInt(2)).append(r.nextInt(3) == 0 ? " late" : "");
                }
                things--;
                told++;
            } else if (told > 1 && r.nextInt(4) == 0) {
                int a = r.nextInt(told);
                s.append("apart ").append(a).append(' ').append((a + 1 + r.nextInt(told - 1)) % told);
            } else if (days > 0) {
                s.append("day").append(gap(r, manner)).append(r.nextInt(3 + 3 * hardness)).append(' ');
                s.append(r.nextInt(hardness + 4)).append(r.nextInt(2) == 0 ? " wash" : "");
                s.append(r.nextInt(2) == 0 ? " rain " + r.nextInt(11) : "");
                days--;
            }
            s.append(gap(r, manner).isEmpty() ? ";" : " ; ");
        }
        if (manner == 1 && s.length() > 0) {
            String signs = "0019; adtop;lateE";
            for (int k = r.nextInt(3); k >= 0; k--) {
                int at = r.nextInt(s.length());
                char sign = r.nextInt(20) == 0 ? (char) r.nextInt(256) : signs.charAt(r.nextInt(signs.length()));
                switch (r.nextInt(4)) {
                    case 0: s.setCharAt(at, sign); break;
                    case 1: s.insert(at, sign); break;
                    case 2: s.deleteCharAt(at); s.append(' '); break;
                    default: s.setLength(at + 1); break;
                }
            }
        }
        return s.length() > 500 ? s.substring(0, 500) : s.toString();
    }

    /** A journey of up to eight days, hard enough that many plans come to nothing. */
    private static String longJourney(Random r) {
        StringBuilder s = new StringBuilder();
        int things = 4 + r.nextInt(3);
        int coats = r.nextInt(3);
        for (int i = 0; i < things; i++) {
            boolean coat = r.nextInt(8) < coats;
            s.append(coat ? "coat " : r.nextBoolean() ? "top " : "bottom ");
            s.append(r.nextInt(4)).append(' ').append(r.nextInt(3)).append(" 1 1 0");
            s.append(coat ? ";" : " " + (1 + Math.min(r.nextInt(3), 1)) + (r.nextInt(3) == 0 ? " late;" : ";"));
        }
        int hardness = 2 + r.nextInt(4);
        for (int d = 3 + r.nextInt(6); d > 0; d--) {
            s.append("day ").append(r.nextInt(hardness)).append(' ').append(Math.max(0, r.nextInt(5) - 2));
            s.append(r.nextInt(4) == 0 ? " wash;" : ";");
        }
        for (int k = r.nextInt(3); k > 0; k--) {
            int a = r.nextInt(things);
            s.append("apart ").append(a).append(' ').append((a + 1 + r.nextInt(things - 1)) % things).append(';');
        }
        return s.toString();
    }

    private static String gap(Random r, int manner) {
        return manner == 2 && r.nextInt(3) == 0 ? "" : " ";
    }

    private static int about(Random r, int least, int most) {
        return r.nextInt(12) == 0 ? least - 1 + r.nextInt(2) * (most - least + 2) : least + r.nextInt(most - least + 1);
    }

    private static long bytes(String s, int from, int n) {
        long v = 0x7172737475767778L;
        for (int k = from; k < from + n; k++) {
            v = v << 8 | s.charAt(k);
        }
        return v;
    }

    private static void due(int run, String call, long got, long want) {
        if (got != want) {
            wrong++;
            if (wrong < 50) {
                System.out.println("run " + run + ": " + call + " answered " + got + ", due is " + want);
            }
        }
    }

    private static void typeBoth(int run, Random r, PackedCase x, Model y, String text) {
        int k = 0;
        while (k < text.length()) {
            int n = Math.min(1 + r.nextInt(8), text.length() - k);
            n = Math.min(text.length() - k, n < 4 ? 8 : n);
            long v = bytes(text, k, n);
            due(run, "type(" + v + ", " + n + ")", x.type(v, n), y.type(v, n));
            k += n;
        }
    }

    /** A set with most things, or any bits at all. */
    private static int someSet(Random r) {
        return r.nextInt(4) == 0 ? r.nextInt() : 63 & (r.nextInt(64) | r.nextInt(64) | r.nextInt(64));
    }

    private static void call(int run, Random r, PackedCase x, Model y) {
        int set = someSet(r);
        int weather = r.nextInt(4) == 0 ? r.nextInt() : r.nextInt(256) & r.nextInt(256);
        int i = about(r, 0, 5);
        int j = about(r, 0, 5);
        int bit = about(r, 0, 1);
        int h = r.nextInt(3) == 0 ? 1000 : about(r, 0, 1000);
        String all = "(set " + set + ", weather " + weather + ", i " + i + ", j " + j + ", bit " + bit + ", h " + h + ")";
        switch (r.nextInt(27)) {
            case 0: due(run, "thing" + all, x.thing(i, j + 3), y.thing(i, j + 3)); break;
            case 1: due(run, "goes" + all, x.goes(i, j), y.goes(i, j)); break;
            case 2: due(run, "day" + all, x.day(i, j - 1), y.day(i, j - 1)); break;
            case 3: case 4: tune(run, r, x, y); break;
            case 5: due(run, "packs" + all, x.packs(set), y.packs(set)); break;
            case 6: case 7: live(run, r, x, y); break;
            case 8: due(run, "now" + all, x.now(j - 1), y.now(j - 1)); break;
            case 9: case 10: due(run, "serves" + all, x.serves(set, weather), y.serves(set, weather)); break;
            case 11: due(run, "plan" + all, x.plan(set, weather, i, bit + 1), y.plan(set, weather, i, bit + 1)); break;
            case 12: due(run, "odds" + all, x.odds(set), y.odds(set)); break;
            case 13: due(run, "least" + all, r.nextInt(5) > 0 ? 0 : x.least(h, bit) - y.least(h, bit), 0); break;
            case 14: case 15: due(run, "needless" + all, x.needless(set, weather, bit), y.needless(set, weather, bit)); break;
            case 16: due(run, "buy" + all, x.buy(set & weather, weather, bit), y.buy(set & weather, weather, bit)); break;
            case 17: due(run, "desk" + all, x.desk(set, weather), y.desk(set, weather)); break;
            case 18: case 19: due(run, "pack" + all, x.pack(set, weather, i - 1), y.pack(set, weather, i - 1)); break;
            case 20: due(run, "allGo" + all, x.allGo(bit), y.allGo(bit)); break;
            case 21: due(run, "again" + all, x.again(set), y.again(set)); break;
            case 22: due(run, "list" + all, x.list(i * 20, j * 19), y.list(i * 20, j * 19)); break;
            case 23: due(run, "span" + all, x.span(j), y.span(j)); break;
            case 24: due(run, "use" + all, x.use(j, i), y.use(j, i)); break;
            case 25: due(run, "keep" + all, x.keep(bit), y.keep(bit)); break;
            default: due(run, "back" + all, x.back(bit), y.back(bit)); break;
        }
    }

    private static void tune(int run, Random r, PackedCase x, Model y) {
        int what = about(r, 0, 2);
        int[] usual = {40 + r.nextInt(200), 1 + r.nextInt(4), 30 + r.nextInt(90)};
        int v = what >= 0 && what <= 2 && r.nextInt(5) > 0 ? usual[what] : about(r, 0, 999);
        due(run, "tune(" + what + ", " + v + ")", x.tune(what, v), y.tune(what, v));
    }

    private static void live(int run, Random r, PackedCase x, Model y) {
        int top = about(r, 0, 5);
        int bottom = about(r, 0, 5);
        for (int k = 0; k < 12; k++) {
            if (y.thing(top, 0) == 0 && y.thing(bottom, 0) == 1) {
                break;
            }
            top = r.nextInt(6);
            bottom = r.nextInt(6);
        }
        int wash = about(r, 0, 1);
        int rain = about(r, 0, 1);
        due(run, "live(" + top + ", " + bottom + ", " + wash + ", " + rain + ")",
            x.live(top, bottom, wash, rain), y.live(top, bottom, wash, rain));
    }

    private static void compare(int run, PackedCase x, Model y) {
        for (int what = 0; what < 6; what++) {
            due(run, "count(" + what + ")", x.count(what), y.count(what));
            due(run, "now(" + what + ")", x.now(what), y.now(what));
            for (int i = 0; i < 6; i++) {
                due(run, "thing(" + i + ", " + (what + 3) + ")", x.thing(i, what + 3), y.thing(i, what + 3));
            }
        }
        due(run, "trace()", x.trace(), y.trace);
    }

    private static void run(int run) {
        Random r = new Random(run);
        PackedCase x = new PackedCase();
        Model y = new Model();
        for (int times = 0; times < 2; times++) {
            String text = journey(r, r.nextInt(3));
            typeBoth(run, r, x, y, text);
            int items = y.journey();
            due(run, "journey of " + text, x.journey(), items);
            if (items < 0) {
                due(run, "clear()", x.clear(), y.clear());
            }
            for (int k = 0; k < CALLS; k++) {
                call(run, r, x, y);
            }
            compare(run, x, y);
        }
    }

    /** Plans and AGAIN alone, on journeys that are long: all can be in many ways then. */
    private static void longJourneys(int runs) {
        for (int run = 0; run < runs; run++) {
            Random r = new Random(run);
            PackedCase x = new PackedCase();
            Model y = new Model();
            String text = longJourney(r);
            typeBoth(run, r, x, y, text);
            due(run, "journey of " + text, x.journey(), y.journey());
            for (int k = 0; k < 5; k++) {
                int set = k == 0 ? y.all() : r.nextInt(64) | r.nextInt(64);
                int weather = r.nextInt(256);
                String all = "(" + set + ", " + weather + ") of " + text;
                due(run, "again" + all, x.again(set), y.again(set));
                List<int[]> plan = y.first(set, weather);
                due(run, "serves" + all, x.serves(set, weather), plan == null ? 0 : 1);
                for (int part = 0; plan != null && part < 3 * plan.size(); part++) {
                    int d = part / 3;
                    due(run, "plan" + all, x.plan(set, weather, d, part % 3), plan.get(d)[part % 3]);
                }
            }
        }
    }

    /** Faults alone, many of them. */
    private static void faults() {
        for (int seed = 0; seed < 20000; seed++) {
            Random r = new Random(seed);
            PackedCase x = new PackedCase();
            Model y = new Model();
            String text = journey(r, 1);
            typeBoth(-seed, r, x, y, text);
            due(-seed, "journey of " + text, x.journey(), y.journey());
            due(-seed, "count of things", x.count(0), y.count(0));
            due(-seed, "count of bytes", x.count(3), y.count(3));
        }
    }

    public static void main(String[] args) {
        int runs = args.length > 0 ? Integer.parseInt(args[0]) : RUNS;
        for (int run = 0; run < runs; run++) {
            run(run);
        }
        faults();
        longJourneys(2 * runs);
        System.out.println("model: " + runs + " runs, " + wrong + " answers are not the model's");
        if (wrong != 0) {
            System.exit(1);
        }
    }
}
