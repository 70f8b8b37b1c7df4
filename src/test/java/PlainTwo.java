import java.util.ArrayList;
import java.util.Arrays;
import java.util.HashMap;
import java.util.List;
import java.util.Map;

/** The document told again, slowly and by other ways than OnlyTwo goes, to compare with. */
final class PlainTwo {
    private static final int[] FIRST = {2, 120, 3, 180};
    private static final int[] TOP = {20, 239, 20, 240};
    private static final List<String> NUMBER_WORDS = List.of("gap", "evening", "more", "night");

    private static final class State {
        List<int[]> porters = new ArrayList<>();
        int[] numbers = FIRST.clone();
        List<int[]> gos = new ArrayList<>();
        List<Integer> bytes = new ArrayList<>();
        List<Integer> loads = new ArrayList<>();

        State copy() {
            State s = new State();
            s.porters = new ArrayList<>(porters);
            s.numbers = numbers.clone();
            s.gos = new ArrayList<>(gos);
            s.bytes = new ArrayList<>(bytes);
            s.loads = new ArrayList<>(loads);
            return s;
        }
    }

    /** How it ends from a minute and sides on: the minute, the hire, and the crossings. */
    private record End(int minute, int hire, List<Integer> row) { }

    private State s = new State();
    private final State[] images = new State[2];
    private final int[] refused = new int[3];

    private int refuse(int what, int answer) {
        refused[what]++;
        return answer;
    }

    private static boolean porterFits(int w, int t, int h, int k) {
        return w >= 1 && w <= 60 && t >= 1 && t <= 30 && h >= 0 && h <= 99 && k >= 0 && k <= 5;
    }

    private boolean isSet(int set) {
        return set >= 0 && set < Math.pow(2, s.porters.size());
    }

    private static boolean isMinute(int m) {
        return m >= 0 && m <= 239;
    }

    private static List<Integer> members(int set) {
        List<Integer> list = new ArrayList<>();
        for (int i = 0; i < 6; i++) {
            if ((set & 1 << i) != 0) {
                list.add(i);
            }
        }
        return list;
    }

    int porter(int w, int t, int h, int k) {
        if (!porterFits(w, t, h, k)) {
            return refuse(0, -2);
        }
        if (s.porters.size() == 6) {
            return refuse(2, -4);
        }
        s.porters.add(new int[] {w, t, h, k});
        return s.porters.size() - 1;
    }

    int put(int what, int v) {
        if (what < 0 || what > 3 || v < 0 || v > TOP[what]) {
            return refuse(0, -2);
        }
        int was = s.numbers[what];
        s.numbers[what] = v;
        return was;
    }

    private int weight(int p, int minute) {
        int[] it = s.porters.get(p);
        boolean heavy = it[3] == 2 || it[3] == 4;
        return it[0] + (heavy && minute >= s.numbers[1] ? s.numbers[2] : 0);
    }

    private int time(int p) {
        int[] it = s.porters.get(p);
        return it[3] == 1 || it[3] == 3 ? it[1] + it[1] : it[1];
    }

    private int timeOf(int set) {
        return members(set).stream().mapToInt(this::time).max().orElse(0);
    }

    int of(int p, int minute, int what) {
        if (p < 0 || p >= s.porters.size() || !isMinute(minute) || what < 0 || what > 1) {
            return refuse(0, -2);
        }
        return what == 0 ? weight(p, minute) : time(p);
    }

    private int whyNot(int set, int minute, boolean night) {
        List<Integer> who = members(set);
        if (who.size() != (night ? 1 : 2)) {
            return 3;
        }
        for (int p : who) {
            int kind = s.porters.get(p)[3];
            if (kind == 3 && !who.contains(p - 1) || kind == 4 && night) {
                return 4;
            }
        }
        if (!night) {
            boolean guide = who.stream().anyMatch(p -> s.porters.get(p)[3] == 5);
            if (!guide && Math.abs(weight(who.get(0), minute) - weight(who.get(1), minute)) < s.numbers[0]) {
                return 5;
            }
        }
        return minute + timeOf(set) > 240 ? 6 : 0;
    }

    private int whyNot(int set, int minute) {
        return whyNot(set, minute, minute >= s.numbers[3]);
    }

    int why(int set, int minute) {
        return set < 1 || !isSet(set) || !isMinute(minute) ? refuse(0, -2) : whyNot(set, minute);
    }

    int type(long v, int n) {
        if (n < 1 || n > 8) {
            return refuse(0, -2);
        }
        if (s.bytes.size() + n > 200) {
            return refuse(2, -4);
        }
        byte[] all = java.nio.ByteBuffer.allocate(8).putLong(v).array();
        for (int i = 8 - n; i < 8; i++) {
            s.bytes.add(Byte.toUnsignedInt(all[i]));
        }
        return s.bytes.size();
    }

    int clear() {
        int was = s.bytes.size();
        s.bytes.clear();
        return was;
    }

    int read() {
        StringBuilder text = new StringBuilder();
        for (int b : s.bytes) {
            text.append((char) b);
        }
        // All tokens first, each with its place; what is none stands as "?".
        List<String> tokens = new ArrayList<>();
        List<Integer> places = new ArrayList<>();
        java.util.regex.Matcher m = java.util.regex.Pattern.compile("[a-z]+|[0-9]+|[^ ]", java.util.regex.Pattern.DOTALL).matcher(text);
        while (m.find()) {
            String t = m.group();
            boolean number = t.matches("[0-9]+");
            boolean good = number ? t.length() <= 3 : t.matches("[a-z]+|;");
            tokens.add(good ? t : "?");
            places.add(m.start());
        }
        places.add(text.length());
        tokens.add("");
        State draft = new State();
        int fault = parse(tokens, draft);
        if (fault >= 0) {
            return -10 - places.get(fault);
        }
        s.porters = draft.porters;
        s.numbers = draft.numbers;
        s.gos = draft.gos;
        return s.gos.size();
    }

    private static int number(String token) {
        return token.matches("[0-9]+") ? Integer.parseInt(token) : -1;
    }

    private static int parse(List<String> tokens, State d) {
        int i = 0;
        while (!tokens.get(i).isEmpty()) {
            String word = tokens.get(i);
            if (word.equals("porter") && d.porters.size() < 6) {
                int[] low = {1, 1, 0, 0};
                int[] high = {60, 30, 99, 5};
                int[] it = new int[4];
                for (int k = 0; k < 4; k++) {
                    it[k] = number(tokens.get(++i));
                    if (it[k] < low[k] || it[k] > high[k]) {
                        return i;
                    }
                }
                d.porters.add(it);
            } else if (NUMBER_WORDS.contains(word)) {
                int what = NUMBER_WORDS.indexOf(word);
                int v = number(tokens.get(++i));
                if (v < 0 || v > TOP[what]) {
                    return i;
                }
                d.numbers[what] = v;
            } else if (word.equals("go") && d.gos.size() < 20) {
                int t = number(tokens.get(++i));
                if (t < 0 || t > 239 || !d.gos.isEmpty() && t < d.gos.get(d.gos.size() - 1)[0]) {
                    return i;
                }
                int a = number(tokens.get(++i));
                if (a < 0 || a >= d.porters.size()) {
                    return i;
                }
                int set = 1 << a;
                if (number(tokens.get(i + 1)) >= 0) {
                    int b = number(tokens.get(++i));
                    if (b >= d.porters.size() || b == a) {
                        return i;
                    }
                    set += 1 << b;
                }
                d.gos.add(new int[] {t, set});
            } else {
                return i;
            }
            if (!tokens.get(++i).equals(";")) {
                return i;
            }
            i++;
        }
        return -1;
    }

    private int[] judge() {
        int[] side = new int[6];
        int free = 0;
        int there = 0;
        for (int i = 0; i < s.gos.size(); i++) {
            int t = s.gos.get(i)[0];
            int set = s.gos.get(i)[1];
            long sides = members(set).stream().map(p -> side[p]).distinct().count();
            int why = t < free ? 1 : sides > 1 ? 2 : whyNot(set, t);
            if (why != 0) {
                return new int[] {10 * i + why, there};
            }
            for (int p : members(set)) {
                side[p] = 1 - side[p];
                there += side[p] == 1 ? 1 << p : -(1 << p);
            }
            free = t + timeOf(set);
        }
        return new int[] {-1, there};
    }

    int judged() {
        return judge()[0];
    }

    int there() {
        return judge()[1];
    }

    /** Sooner, then for less, then the least set in the first minute in which they differ. */
    private End best(int t, int sides, int band, int lacking, Map<Integer, End> known) {
        if ((sides & band) == band) {
            return new End(t, 0, List.of());
        }
        if (t >= 240) {
            return null;
        }
        int key = t * 64 + sides;
        if (known.containsKey(key)) {
            return known.get(key);
        }
        End best = null;
        for (int set = 1; set <= 64; set++) {
            End end = null;
            if (set == 64) {
                end = best(t + 1, sides, band, lacking, known);
            } else if (Integer.bitCount(set) <= 2 && isSet(set) && (set & lacking) == 0 && ((sides & set) == 0 || (sides & set) == set)
                && whyNot(set, t) == 0) {
                End rest = best(t + timeOf(set), sides ^ set, band, lacking, known);
                if (rest != null) {
                    int hire = members(set).stream().mapToInt(p -> s.porters.get(p)[2]).sum();
                    List<Integer> row = new ArrayList<>(List.of(64 * t + set));
                    row.addAll(rest.row);
                    end = new End(rest.minute, rest.hire + hire, row);
                }
            }
            if (end != null && (best == null || end.minute < best.minute
                || end.minute == best.minute && end.hire < best.hire)) {
                best = end;
            }
        }
        known.put(key, best);
        return best;
    }

    private End leastOf(int band, int lacking) {
        return best(0, 0, band, lacking, new HashMap<>());
    }

    int least(int band, int what) {
        if (!isSet(band) || what < 0 || what > 2) {
            return refuse(0, -2);
        }
        End end = leastOf(band, 0);
        return end == null ? -1 : what == 0 ? end.minute : what == 1 ? end.hire : end.row.size();
    }

    int row(int band, int i) {
        if (!isSet(band) || i < 0) {
            return refuse(0, -10);
        }
        End end = leastOf(band, 0);
        return end == null || i >= end.row.size() ? -5 : end.row.get(i);
    }

    int worth(int band, int p) {
        if (!isSet(band) || p < 0 || p >= s.porters.size() || members(band).contains(p)) {
            return refuse(0, -1000);
        }
        End without = leastOf(band, 1 << p);
        End with = leastOf(band, 0);
        return without == null || with == null ? refuse(1, -2000) : without.hire - with.hire;
    }

    /** A whole game, position by position, from those that are won backwards. */
    int turns(int a, int b) {
        if (!isSet(a) || !isSet(b) || (a & b) != 0) {
            return refuse(0, -2);
        }
        // win[turn][sides]: 0 open, 1 A wins, 2 B wins; sides has the porters of A and B at side 1.
        int[][] win = new int[2][64];
        boolean more = true;
        while (more) {
            more = false;
            for (int turn = 0; turn < 2; turn++) {
                for (int sides = 0; sides < 64; sides++) {
                    int now = (sides & ~(a | b)) != 0 || win[turn][sides] != 0 ? 0 : outcome(turn, sides, a, b, win);
                    if (now != 0) {
                        win[turn][sides] = now;
                        more = true;
                    }
                }
            }
        }
        return win[0][b];
    }

    private int outcome(int turn, int sides, int a, int b, int[][] win) {
        boolean overA = (sides & a) == a;
        boolean overB = (sides & b) == 0;
        if (overA && overB) {
            return turn == 0 && a != 0 ? 2 : 1;
        }
        if (overA || overB) {
            return overA ? 1 : 2;
        }
        int own = turn == 0 ? a : b;
        boolean allLost = win[1 - turn][sides] == 2 - turn;
        for (int set = 0; set < 64; set++) {
            boolean move = set == 0 || (set & own) == set && ((sides & set) == 0 || (sides & set) == set)
                && whyNot(set, 0, false) == 0;
            if (move && win[1 - turn][sides ^ set] == turn + 1) {
                return turn + 1;
            }
            allLost &= !move || win[1 - turn][sides ^ set] == 2 - turn;
        }
        return allLost ? 2 - turn : 0;
    }

    int load(int w) {
        if (w < 1 || w > 20) {
            return refuse(0, -2);
        }
        if (s.loads.size() == 5) {
            return refuse(2, -4);
        }
        s.loads.add(w);
        return s.loads.size() - 1;
    }

    int unload() {
        int was = s.loads.size();
        s.loads.clear();
        return was;
    }

    int carries(int i) {
        if (i < -1 || i >= s.loads.size()) {
            return refuse(0, -10);
        }
        int n = s.porters.size();
        int k = s.loads.size();
        int most = -1;
        int[] first = null;
        for (int code = 0; code < Math.pow(n + 1, k); code++) {
            int[] who = new int[k];
            int rest = code;
            for (int j = k - 1; j >= 0; j--) {
                who[j] = rest % (n + 1) - 1;
                rest /= n + 1;
            }
            int pairs = pairsWith(who);
            if (pairs > most) {
                most = pairs;
                first = who;
            }
        }
        return i == -1 ? most : first[i];
    }

    /** -1 if one has two loads. */
    private int pairsWith(int[] who) {
        int[] extra = new int[6];
        for (int j = 0; j < who.length; j++) {
            if (who[j] >= 0) {
                if (extra[who[j]] > 0) {
                    return -1;
                }
                extra[who[j]] = s.loads.get(j);
            }
        }
        List<int[]> before = s.porters;
        s.porters = new ArrayList<>();
        for (int p = 0; p < before.size(); p++) {
            int[] it = before.get(p).clone();
            it[0] += extra[p];
            s.porters.add(it);
        }
        int pairs = 0;
        for (int set = 1; set < 1 << before.size(); set++) {
            pairs += Integer.bitCount(set) == 2 && whyNot(set, 0, false) == 0 ? 1 : 0;
        }
        s.porters = before;
        return pairs;
    }

    int fell(int there, int minute, int i) {
        if (!isSet(there) || !isMinute(minute) || i < -1) {
            return refuse(0, -10);
        }
        List<Integer> pairs = new ArrayList<>();
        for (int set = 1; set < 1 << s.porters.size(); set++) {
            List<Integer> who = members(set);
            if (who.size() == 2 && whyNot(set, minute, false) == 5
                && members(there).contains(who.get(0)) == members(there).contains(who.get(1))) {
                pairs.add(10 * who.get(0) + who.get(1));
            }
        }
        pairs.sort(null);
        return i == -1 ? pairs.size() : i < pairs.size() ? pairs.get(i) : -5;
    }

    int ropes(int limit) {
        if (limit < 1 || limit > 30000) {
            return refuse(0, -2);
        }
        int left = limit;
        for (int go = 0; go < 99 * s.gos.size(); go++) {
            int[] it = s.gos.get(go % s.gos.size());
            left -= members(it[1]).stream().mapToInt(p -> weight(p, it[0])).sum();
            if (left < 0) {
                return go / s.gos.size() * 100 + go % s.gos.size();
            }
        }
        return -1;
    }

    int image(int i) {
        if (i != 0 && i != 1) {
            return refuse(0, -2);
        }
        images[i] = s.copy();
        return 1;
    }

    int from(int i) {
        if (i != 0 && i != 1) {
            return refuse(0, -2);
        }
        if (images[i] == null) {
            return refuse(1, -3);
        }
        s = images[i].copy();
        return 1;
    }

    int status(int what) {
        return what < 0 || what > 2 ? refuse(0, -1) : refused[what];
    }

    int count(int what) {
        int[] counts = {s.porters.size(), s.gos.size(), s.bytes.size(), s.loads.size()};
        return what < 0 || what > 3 ? refuse(0, -2) : counts[what];
    }

    long digest() {
        List<Integer> all = new ArrayList<>(List.of(s.porters.size(), s.gos.size(), s.bytes.size(), s.loads.size()));
        s.porters.forEach(p -> Arrays.stream(p).forEach(all::add));
        Arrays.stream(s.numbers).forEach(all::add);
        s.gos.forEach(g -> Arrays.stream(g).forEach(all::add));
        all.addAll(s.bytes);
        all.addAll(s.loads);
        long h = 631;
        for (int v : all) {
            h = 31 * h + v;
        }
        return h;
    }
}
