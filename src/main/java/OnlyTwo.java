import java.util.Arrays;

/** A rope bridge that bears only two unlike porters by day, and one at night. README.md says how to use it. */
public final class OnlyTwo {
    public static final int NONE = -1, BAD = -2, NO = -3, FULL = -4;

    private static final int PORTERS = 6, GOS = 20, BYTES = 200, LOADS = 5, IMAGES = 2, NUMBERS = 4;
    private static final int MINUTES = 240, YEARS = 99, HIGHEST_LIMIT = 30000, HEAVIEST_LOAD = 20;
    private static final int GAP = 0, EVENING = 1, MORE = 2, NIGHT = 3;
    private static final int TOO_MANY_OR_FEW = 3, NEVER_SO = 4, NOT_UNLIKE = 5, NO_END = 6;
    private static final int NOT_SO_MANY = -5, BAD_TEN = -10, BAD_WORTH = -1000, NO_WORTH = -2000;
    private static final int[] AT_FIRST = {2, 120, 3, 180};
    private static final int[] HIGHEST_NUMBER = {20, 239, 20, 240};
    private static final int[] LOWEST_OF_PORTER = {1, 1, 0, 0};
    private static final int[] HIGHEST_OF_PORTER = {60, 30, 99, 5};

    /** A set of porters is told by its bits; these are all that have one or two, the least bits first. */
    private static final int[] SMALL_SETS =
        {1, 2, 3, 4, 5, 6, 8, 9, 10, 12, 16, 17, 18, 20, 24, 32, 33, 34, 36, 40, 48};

    /** A set of sets is told by the bits of a long; the p-th of these has all sets without porter p. */
    private static final long[] WITHOUT = {
        0x5555555555555555L, 0x3333333333333333L, 0x0F0F0F0F0F0F0F0FL,
        0x00FF00FF00FF00FFL, 0x0000FFFF0000FFFFL, 0x00000000FFFFFFFFL};

    private final Camp camp = new Camp();
    private final Camp[] images = new Camp[IMAGES];
    private final boolean[] kept = new boolean[IMAGES];
    private final Reader reader = new Reader();
    private final Planner planner = new Planner();
    private final Loader loader = new Loader();
    private int refusedBad, refusedNo, refusedFull;

    public OnlyTwo() {
        for (int i = 0; i < IMAGES; i++) {
            images[i] = new Camp();
        }
    }

    // ---- porters, days

    public int porter(int weight, int time, int hire, int kind) {
        if (!fitsPorter(0, weight) || !fitsPorter(1, time) || !fitsPorter(2, hire) || !fitsPorter(3, kind)) {
            return bad(BAD);
        }
        if (camp.porterCount >= PORTERS) {
            return full();
        }
        changed();
        camp.addPorter(newPorter(weight, time, hire, kind));
        return camp.porterCount - 1;
    }

    public int put(int what, int v) {
        if (what < 0 || what >= NUMBERS || v < 0 || v > HIGHEST_NUMBER[what]) {
            return bad(BAD);
        }
        int before = camp.numbers[what];
        changed();
        camp.numbers[what] = v;
        return before;
    }

    public int of(int porter, int minute, int what) {
        if (!camp.hasPorter(porter) || !isMinute(minute) || what < 0 || what > 1) {
            return bad(BAD);
        }
        return what == 0 ? camp.weightOf(porter, minute) : camp.porters[porter].minutes();
    }

    public int why(int set, int minute) {
        if (set < 1 || !camp.hasSet(set) || !isMinute(minute)) {
            return bad(BAD);
        }
        return camp.whyNot(set, minute, camp.isNight(minute));
    }

    public int type(long v, int n) {
        if (n < 1 || n > 8) {
            return bad(BAD);
        }
        if (camp.textLength + n > BYTES) {
            return full();
        }
        for (int k = n - 1; k >= 0; k--) {
            camp.addByte((int) (v >>> 8 * k) & 255);
        }
        return camp.textLength;
    }

    public int clear() {
        int before = camp.textLength;
        camp.textLength = 0;
        return before;
    }

    public int read() {
        int fault = reader.faultOf(camp);
        if (fault != NONE) {
            return -10 - fault;
        }
        changed();
        camp.takeDay(reader.draft);
        return camp.goCount;
    }

    public int judged() {
        return camp.firstNoGo();
    }

    public int there() {
        int first = camp.firstNoGo();
        int gos = first == NONE ? camp.goCount : first / 10;
        int sides = 0;
        for (int i = 0; i < gos && i < GOS; i++) {
            sides ^= camp.goSets[i];
        }
        return sides;
    }

    // ---- bands

    public int least(int band, int what) {
        if (!camp.hasSet(band) || what < 0 || what > 2) {
            return bad(BAD);
        }
        planner.plan(camp, band, 0);
        if (planner.minutes == NONE) {
            return NONE;
        }
        return what == 0 ? planner.minutes : what == 1 ? planner.hire : planner.crossings;
    }

    public int row(int band, int i) {
        if (!camp.hasSet(band) || i < 0) {
            return bad(BAD_TEN);
        }
        planner.plan(camp, band, 0);
        if (planner.minutes == NONE || i >= planner.crossings || i >= MINUTES) {
            return NOT_SO_MANY;
        }
        return planner.rowOfCrossings[i];
    }

    public int worth(int band, int porter) {
        if (!camp.hasSet(band) || !camp.hasPorter(porter) || hasPorterIn(band, porter)) {
            return bad(BAD_WORTH);
        }
        planner.plan(camp, band, 1 << porter);
        boolean none = planner.minutes == NONE;
        int without = planner.hire;
        planner.plan(camp, band, 0);
        if (none || planner.minutes == NONE) {
            refusedNo++;
            return NO_WORTH;
        }
        return without - planner.hire;
    }

    public int turns(int a, int b) {
        if (!camp.hasSet(a) || !camp.hasSet(b) || (a & b) != 0) {
            return bad(BAD);
        }
        // No band can hinder the other, so best play is the shortest way of each.
        int turnsOfA = camp.turnsUntilOver(a);
        int turnsOfB = camp.turnsUntilOver(b);
        if (turnsOfA == NONE && turnsOfB == NONE) {
            return 0;
        }
        if (turnsOfB == NONE) {
            return 1;
        }
        return turnsOfA != NONE && turnsOfA <= turnsOfB ? 1 : 2;
    }

    // ---- loads, falls, ropes

    public int load(int weight) {
        if (weight < 1 || weight > HEAVIEST_LOAD) {
            return bad(BAD);
        }
        if (camp.loadCount >= LOADS) {
            return full();
        }
        changed();
        camp.addLoad(weight);
        return camp.loadCount - 1;
    }

    public int unload() {
        int before = camp.loadCount;
        changed();
        camp.loadCount = 0;
        return before;
    }

    public int carries(int i) {
        if (i < NONE || i >= camp.loadCount || i >= LOADS) {
            return bad(BAD_TEN);
        }
        loader.share(camp);
        return i == NONE ? loader.mostPairs : loader.carriers[i];
    }

    public int fell(int there, int minute, int i) {
        if (!camp.hasSet(there) || !isMinute(minute) || i < NONE) {
            return bad(BAD_TEN);
        }
        int pairs = 0;
        for (int a = 0; a < camp.porterCount; a++) {
            for (int b = a + 1; b < camp.porterCount; b++) {
                int pair = 1 << a | 1 << b;
                if (isOnOneSide(pair, there) && camp.whyNot(pair, minute, false) == NOT_UNLIKE) {
                    if (pairs == i) {
                        return 10 * a + b;
                    }
                    pairs++;
                }
            }
        }
        return i == NONE ? pairs : NOT_SO_MANY;
    }

    public int ropes(int limit) {
        if (limit < 1 || limit > HIGHEST_LIMIT) {
            return bad(BAD);
        }
        int borne = 0;
        for (int year = 0; year < YEARS; year++) {
            for (int i = 0; i < camp.goCount; i++) {
                borne += camp.weightOfGo(i);
                if (borne > limit) {
                    return 100 * year + i;
                }
            }
        }
        return NONE;
    }

    // ---- what there is

    public int image(int i) {
        if (i < 0 || i >= IMAGES) {
            return bad(BAD);
        }
        images[i].copy(camp);
        kept[i] = true;
        return 1;
    }

    public int from(int i) {
        if (i < 0 || i >= IMAGES) {
            return bad(BAD);
        }
        if (!kept[i]) {
            refusedNo++;
            return NO;
        }
        changed();
        camp.copy(images[i]);
        return 1;
    }

    public int status(int what) {
        switch (what) {
            case 0: return refusedBad;
            case 1: return refusedNo;
            case 2: return refusedFull;
            default: return bad(-1);
        }
    }

    public int count(int what) {
        switch (what) {
            case 0: return camp.porterCount;
            case 1: return camp.goCount;
            case 2: return camp.textLength;
            case 3: return camp.loadCount;
            default: return bad(BAD);
        }
    }

    public long digest() {
        return camp.digestOfAll();
    }

    private int bad(int answer) {
        refusedBad++;
        return answer;
    }

    private int full() {
        refusedFull++;
        return FULL;
    }

    /** What was planned holds only while porters, numbers and loads stay. */
    private void changed() {
        planner.known = false;
        loader.known = false;
    }

    private static boolean fitsPorter(int what, int v) {
        return v >= LOWEST_OF_PORTER[what] && v <= HIGHEST_OF_PORTER[what];
    }

    private static boolean isMinute(int minute) {
        return minute >= 0 && minute < MINUTES;
    }

    private static boolean hasPorterIn(int set, int porter) {
        return (set >> porter & 1) != 0;
    }

    private static boolean isOnOneSide(int set, int there) {
        return (set & there) == 0 || (set & there) == set;
    }

    private static Plain newPorter(int weight, int time, int hire, int kind) {
        switch (kind) {
            case 1: return new Lame(weight, time, hire, kind);
            case 2: return new Heavy(weight, time, hire, kind);
            case 3: return new Tied(weight, time, hire, kind);
            case 4: return new Afraid(weight, time, hire, kind);
            case 5: return new Guide(weight, time, hire, kind);
            default: return new Plain(weight, time, hire, kind);
        }
    }

    /** Of sets of porters at side 1: those in which all of a set are there. */
    private static long withAllOf(int set) {
        long there = -1L;
        for (int p = 0; p < PORTERS; p++) {
            if (hasPorterIn(set, p)) {
                there &= ~WITHOUT[p];
            }
        }
        return there;
    }

    /** What becomes of sets of porters at side 1, if a set crosses wherever it is on one side. */
    private static long crossed(long sides, int set) {
        long moved = sides;
        long here = -1L;
        long there = -1L;
        for (int p = 0; p < PORTERS; p++) {
            if (hasPorterIn(set, p)) {
                moved = (moved & WITHOUT[p]) << (1 << p) | moved >>> (1 << p) & WITHOUT[p];
                here &= WITHOUT[p];
                there &= ~WITHOUT[p];
            }
        }
        return moved & (here | there);
    }

    /** A porter as told, and what all kinds are under. */
    private static class Plain {
        final int weight, time, hire, kind;

        Plain(int weight, int time, int hire, int kind) {
            this.weight = weight;
            this.time = time;
            this.hire = hire;
            this.kind = kind;
        }

        int weightFor(boolean evening, int more) {
            return weight;
        }

        int minutes() {
            return time;
        }

        /** Whether this porter, by its number, never goes with such a set. */
        boolean isNeverSo(int number, int set, boolean night) {
            return false;
        }

        boolean isGuide() {
            return false;
        }
    }

    private static class Lame extends Plain {
        Lame(int weight, int time, int hire, int kind) {
            super(weight, time, hire, kind);
        }

        int minutes() {
            return 2 * time;
        }
    }

    private static class Heavy extends Plain {
        Heavy(int weight, int time, int hire, int kind) {
            super(weight, time, hire, kind);
        }

        int weightFor(boolean evening, int more) {
            return evening ? weight + more : weight;
        }
    }

    private static final class Tied extends Lame {
        Tied(int weight, int time, int hire, int kind) {
            super(weight, time, hire, kind);
        }

        boolean isNeverSo(int number, int set, boolean night) {
            return number < 1 || !hasPorterIn(set, number - 1);
        }
    }

    private static final class Afraid extends Heavy {
        Afraid(int weight, int time, int hire, int kind) {
            super(weight, time, hire, kind);
        }

        boolean isNeverSo(int number, int set, boolean night) {
            return night;
        }
    }

    private static final class Guide extends Plain {
        Guide(int weight, int time, int hire, int kind) {
            super(weight, time, hire, kind);
        }

        boolean isGuide() {
            return true;
        }
    }

    /** All that an image keeps: porters, numbers, gos, the text and loads. */
    private static final class Camp {
        final Plain[] porters = new Plain[PORTERS];
        final int[] numbers = new int[NUMBERS];
        final int[] goMinutes = new int[GOS];
        final int[] goSets = new int[GOS];
        final int[] text = new int[BYTES];
        final int[] loads = new int[LOADS];
        int porterCount, goCount, textLength, loadCount;

        Camp() {
            // Somebody stands in every place, so that no place is ever null.
            Plain nobody = new Plain(1, 1, 0, 0);
            for (int p = 0; p < PORTERS; p++) {
                porters[p] = nobody;
            }
            System.arraycopy(AT_FIRST, 0, numbers, 0, NUMBERS);
        }

        void copy(Camp other) {
            takeDay(other);
            System.arraycopy(other.text, 0, text, 0, BYTES);
            System.arraycopy(other.loads, 0, loads, 0, LOADS);
            textLength = other.textLength;
            loadCount = other.loadCount;
        }

        /** Takes what a text tells: porters, numbers and gos. */
        void takeDay(Camp other) {
            for (int p = 0; p < PORTERS; p++) {
                porters[p] = other.porters[p];
            }
            System.arraycopy(other.numbers, 0, numbers, 0, NUMBERS);
            System.arraycopy(other.goMinutes, 0, goMinutes, 0, GOS);
            System.arraycopy(other.goSets, 0, goSets, 0, GOS);
            porterCount = other.porterCount;
            goCount = other.goCount;
        }

        void forgetDay() {
            porterCount = 0;
            goCount = 0;
            System.arraycopy(AT_FIRST, 0, numbers, 0, NUMBERS);
        }

        void addPorter(Plain porter) {
            if (porterCount < PORTERS) {
                porters[porterCount] = porter;
                porterCount++;
            }
        }

        void addGo(int minute, int set) {
            if (goCount < GOS) {
                goMinutes[goCount] = minute;
                goSets[goCount] = set;
                goCount++;
            }
        }

        void addByte(int b) {
            if (textLength < BYTES) {
                text[textLength] = b;
                textLength++;
            }
        }

        void addLoad(int weight) {
            if (loadCount < LOADS) {
                loads[loadCount] = weight;
                loadCount++;
            }
        }

        boolean hasPorter(int p) {
            return p >= 0 && p < porterCount;
        }

        boolean hasSet(int set) {
            return set >= 0 && set < 1 << porterCount;
        }

        boolean isNight(int minute) {
            return minute >= numbers[NIGHT];
        }

        int weightOf(int p, int minute) {
            return porters[p].weightFor(minute >= numbers[EVENING], numbers[MORE]);
        }

        int minutesOf(int set) {
            int most = 0;
            for (int p = 0; p < porterCount; p++) {
                if (hasPorterIn(set, p)) {
                    most = Math.max(most, porters[p].minutes());
                }
            }
            return most;
        }

        int hireOf(int set) {
            int sum = 0;
            for (int p = 0; p < porterCount; p++) {
                if (hasPorterIn(set, p)) {
                    sum += porters[p].hire;
                }
            }
            return sum;
        }

        /** Why porters on one side can not cross: 3 to 6, the first that holds; 0 if they may. */
        int whyNot(int set, int minute, boolean night) {
            if (Integer.bitCount(set) != (night ? 1 : 2)) {
                return TOO_MANY_OR_FEW;
            }
            if (hasNeverSo(set, night)) {
                return NEVER_SO;
            }
            if (!night && !isUnlikeEnough(set, minute)) {
                return NOT_UNLIKE;
            }
            return minute + minutesOf(set) > MINUTES ? NO_END : 0;
        }

        boolean hasNeverSo(int set, boolean night) {
            for (int p = 0; p < porterCount; p++) {
                if (hasPorterIn(set, p) && porters[p].isNeverSo(p, set, night)) {
                    return true;
                }
            }
            return false;
        }

        boolean hasGuide(int set) {
            for (int p = 0; p < porterCount; p++) {
                if (hasPorterIn(set, p) && porters[p].isGuide()) {
                    return true;
                }
            }
            return false;
        }

        /** Of a pair: they are unlike, or with a guide. */
        private boolean isUnlikeEnough(int pair, int minute) {
            int apart = 0;
            int sign = 1;
            for (int p = 0; p < porterCount; p++) {
                if (hasPorterIn(pair, p)) {
                    apart += sign * weightOf(p, minute);
                    sign = -1;
                }
            }
            return Math.abs(apart) >= numbers[GAP] || hasGuide(pair);
        }

        /** 10 times the first go that is none and why, or NONE. */
        int firstNoGo() {
            int sides = 0;
            int free = 0;
            for (int i = 0; i < goCount; i++) {
                int why = whyNoGo(i, sides, free);
                if (why != 0) {
                    return 10 * i + why;
                }
                sides ^= goSets[i];
                free = goMinutes[i] + minutesOf(goSets[i]);
            }
            return NONE;
        }

        private int whyNoGo(int i, int sides, int free) {
            if (goMinutes[i] < free) {
                return 1;
            }
            if (!isOnOneSide(goSets[i], sides)) {
                return 2;
            }
            return whyNot(goSets[i], goMinutes[i], isNight(goMinutes[i]));
        }

        int weightOfGo(int i) {
            int sum = 0;
            for (int p = 0; p < porterCount; p++) {
                if (hasPorterIn(goSets[i], p)) {
                    sum += weightOf(p, goMinutes[i]);
                }
            }
            return sum;
        }

        /** The fewest turns in which a band brings all of its own over, two in each; NONE if it never can. */
        int turnsUntilOver(int band) {
            long sides = 1L;
            for (int turn = 0; turn < 64; turn++) {
                if ((sides >>> band & 1L) != 0L) {
                    return turn;
                }
                long behind = sides;
                for (int set : SMALL_SETS) {
                    if ((set & band) == set && whyNot(set, 0, false) == 0) {
                        behind |= crossed(sides, set);
                    }
                }
                if (behind == sides) {
                    return NONE;
                }
                sides = behind;
            }
            return NONE;
        }

        long digestOfAll() {
            long h = 631L;
            h = 31L * h + porterCount;
            h = 31L * h + goCount;
            h = 31L * h + textLength;
            h = 31L * h + loadCount;
            for (int p = 0; p < porterCount; p++) {
                h = 31L * h + porters[p].weight;
                h = 31L * h + porters[p].time;
                h = 31L * h + porters[p].hire;
                h = 31L * h + porters[p].kind;
            }
            h = digestOf(h, numbers, NUMBERS);
            for (int i = 0; i < goCount; i++) {
                h = 31L * h + goMinutes[i];
                h = 31L * h + goSets[i];
            }
            h = digestOf(h, text, textLength);
            return digestOf(h, loads, loadCount);
        }

        private static long digestOf(long before, int[] values, int length) {
            long h = before;
            for (int i = 0; i < length && i < values.length; i++) {
                h = 31L * h + values[i];
            }
            return h;
        }
    }

    /** Reads a text into a draft; a fault is always the place of the token that it stands at. */
    private static final class Reader {
        private static final int ENDED = 0, WORD = 1, NUMBER = 2, SEMICOLON = 3, NO_TOKEN = 4;
        private static final int PORTER_WORD = 4, GO_WORD = 5, WORDS = 6;

        final Camp draft = new Camp();
        private final int[] told = new int[LOWEST_OF_PORTER.length];
        private int[] text = draft.text;
        private int length, at, token, tokenAt, value, lastMinute;

        /** The place of the fault, or NONE: then the draft has what the text tells. */
        int faultOf(Camp camp) {
            text = camp.text;
            length = Math.min(camp.textLength, text.length);
            at = 0;
            lastMinute = 0;
            draft.forgetDay();
            nextToken();
            for (int items = 0; items < BYTES && token != ENDED; items++) {
                int word = wordAtToken();
                boolean taken = word == PORTER_WORD ? takesPorter()
                    : word == GO_WORD ? takesGo()
                    : takesNumber(word);
                if (!taken || token != SEMICOLON) {
                    return tokenAt;
                }
                nextToken();
            }
            return NONE;
        }

        private boolean takesPorter() {
            if (draft.porterCount >= PORTERS) {
                return false;
            }
            nextToken();
            for (int what = 0; what < told.length; what++) {
                told[what] = value;
                if (!takesIfIn(LOWEST_OF_PORTER[what], HIGHEST_OF_PORTER[what])) {
                    return false;
                }
            }
            draft.addPorter(newPorter(told[0], told[1], told[2], told[3]));
            return true;
        }

        private boolean takesNumber(int what) {
            if (what < 0 || what >= NUMBERS) {
                return false;
            }
            nextToken();
            int v = value;
            if (!takesIfIn(0, HIGHEST_NUMBER[what])) {
                return false;
            }
            draft.numbers[what] = v;
            return true;
        }

        private boolean takesGo() {
            if (draft.goCount >= GOS) {
                return false;
            }
            nextToken();
            int minute = value;
            if (!takesIfIn(lastMinute, MINUTES - 1)) {
                return false;
            }
            int first = value;
            if (!takesIfIn(0, draft.porterCount - 1)) {
                return false;
            }
            int second = first;
            if (token == NUMBER) {
                second = value;
                if (second == first || !takesIfIn(0, draft.porterCount - 1)) {
                    return false;
                }
            }
            lastMinute = minute;
            draft.addGo(minute, 1 << first | 1 << second);
            return true;
        }

        /** Goes on behind a number that is in bounds, and stays at any other token. */
        private boolean takesIfIn(int lowest, int highest) {
            if (token != NUMBER || value < lowest || value > highest) {
                return false;
            }
            nextToken();
            return true;
        }

        private void nextToken() {
            while (at < length && text[at] == ' ') {
                at++;
            }
            tokenAt = at;
            if (at >= length) {
                token = ENDED;
            } else if (isLetter(text[at])) {
                token = WORD;
                while (at < length && isLetter(text[at])) {
                    at++;
                }
            } else if (isFigure(text[at])) {
                passNumber();
            } else {
                token = text[at] == ';' ? SEMICOLON : NO_TOKEN;
                at++;
            }
        }

        /** A number with a fourth figure is none, from its first figure on. */
        private void passNumber() {
            value = 0;
            while (at < length && isFigure(text[at])) {
                if (at - tokenAt < 3) {
                    value = 10 * value + text[at] - '0';
                }
                at++;
            }
            token = at - tokenAt <= 3 ? NUMBER : NO_TOKEN;
        }

        /** Which word the token is; NONE if it is none. */
        private int wordAtToken() {
            if (token != WORD) {
                return NONE;
            }
            for (int i = 0; i < WORDS; i++) {
                if (isAtToken(wordOf(i))) {
                    return i;
                }
            }
            return NONE;
        }

        private boolean isAtToken(String word) {
            if (at - tokenAt != word.length()) {
                return false;
            }
            for (int i = 0; i < word.length() && tokenAt + i < length; i++) {
                if (text[tokenAt + i] != word.charAt(i)) {
                    return false;
                }
            }
            return true;
        }

        /** The words of the numbers first, by what they put. */
        private static String wordOf(int i) {
            switch (i) {
                case GAP: return "gap";
                case EVENING: return "evening";
                case MORE: return "more";
                case NIGHT: return "night";
                case PORTER_WORD: return "porter";
                default: return "go";
            }
        }

        private static boolean isLetter(int b) {
            return b >= 'a' && b <= 'z';
        }

        private static boolean isFigure(int b) {
            return b >= '0' && b <= '9';
        }
    }

    /** Brings a band over in the fewest minutes, then for the least hire. */
    private static final class Planner {
        private static final int NEVER = 1 << 28, SIDES = 64;

        boolean known;
        int minutes, hire, crossings;
        final int[] rowOfCrossings = new int[MINUTES];
        private int knownBand, knownLacking;
        /** By minute: the sets that may begin to cross, if they have an end. */
        private final long[] open = new long[MINUTES];
        /** By minute: who may be at side 1 while the bridge is free. */
        private final long[] reached = new long[MINUTES + 1];
        /** By minute and who is at side 1, where that is reached: the least hire from there on. */
        private final int[] hires = new int[(MINUTES + 1) * SIDES];
        private final int[] minutesOf = new int[SIDES];
        private final int[] hireOf = new int[SIDES];

        /** No crossing has one of those lacking. */
        void plan(Camp camp, int band, int lacking) {
            if (known && knownBand == band && knownLacking == lacking) {
                return;
            }
            known = true;
            knownBand = band;
            knownLacking = lacking;
            for (int set : SMALL_SETS) {
                minutesOf[set] = camp.minutesOf(set);
                hireOf[set] = camp.hireOf(set);
            }
            findOpen(camp, lacking);
            findMinutes(withAllOf(band));
            hire = 0;
            crossings = 0;
            if (minutes != NONE) {
                keepUseful(withAllOf(band));
                findHires();
                findRow();
            }
        }

        private void findOpen(Camp camp, int lacking) {
            Arrays.fill(open, 0L);
            for (int set : SMALL_SETS) {
                boolean canBe = camp.hasSet(set) && (set & lacking) == 0;
                boolean may = false;
                for (int t = 0; t < MINUTES && canBe; t++) {
                    // Only evening and night change what may cross.
                    if (t == 0 || t == camp.numbers[EVENING] || t == camp.numbers[NIGHT]) {
                        int why = camp.whyNot(set, t, camp.isNight(t));
                        may = why == 0 || why == NO_END;
                    }
                    if (may) {
                        open[t] |= 1L << set;
                    }
                }
            }
        }

        private boolean mayCross(int set, int t, int end) {
            return (open[t] >>> set & 1L) != 0L && t + minutesOf[set] <= end;
        }

        private void findMinutes(long over) {
            minutes = NONE;
            Arrays.fill(reached, 0L);
            reached[0] = 1L;
            for (int t = 0; t < MINUTES; t++) {
                if ((reached[t] & over) != 0L) {
                    minutes = t;
                    return;
                }
                reached[t + 1] |= reached[t];
                for (int set : SMALL_SETS) {
                    if (mayCross(set, t, MINUTES)) {
                        reached[t + minutesOf[set]] |= crossed(reached[t], set);
                    }
                }
            }
            if ((reached[MINUTES] & over) != 0L) {
                minutes = MINUTES;
            }
        }

        /** Leaves of what is reached only that from which all are over in the fewest minutes. */
        private void keepUseful(long over) {
            reached[minutes] &= over;
            for (int t = minutes - 1; t >= 0; t--) {
                long useful = reached[t + 1];
                for (int set : SMALL_SETS) {
                    if (mayCross(set, t, minutes)) {
                        useful |= crossed(reached[t + minutesOf[set]], set);
                    }
                }
                reached[t] &= useful;
            }
        }

        private void findHires() {
            for (int t = minutes; t >= 0; t--) {
                for (int sides = 0; sides < SIDES; sides++) {
                    if ((reached[t] >>> sides & 1L) != 0L) {
                        hires[t * SIDES + sides] = t == minutes ? 0 : leastHire(t, sides);
                    }
                }
            }
            hire = hires[0];
        }

        private int leastHire(int t, int sides) {
            int best = hireFrom(t + 1, sides);
            for (int set : SMALL_SETS) {
                if (mayCross(set, t, minutes) && isOnOneSide(set, sides)) {
                    best = Math.min(best, hireBy(set, t, sides));
                }
            }
            return best;
        }

        private int hireBy(int set, int t, int sides) {
            return hireOf[set] + hireFrom(t + minutesOf[set], sides ^ set);
        }

        private int hireFrom(int t, int sides) {
            return (reached[t] >>> sides & 1L) != 0L ? hires[t * SIDES + sides] : NEVER;
        }

        private void findRow() {
            int sides = 0;
            int free = 0;
            for (int t = 0; t < minutes; t++) {
                int set = t < free ? 0 : firstOfLeast(t, sides);
                if (set != 0 && crossings < rowOfCrossings.length) {
                    rowOfCrossings[crossings] = 64 * t + set;
                    crossings++;
                    sides ^= set;
                    free = t + minutesOf[set];
                }
            }
        }

        /** The least set whose crossing keeps the least hire; 0 if all have to wait. */
        private int firstOfLeast(int t, int sides) {
            for (int set : SMALL_SETS) {
                if (mayCross(set, t, minutes) && isOnOneSide(set, sides)
                    && hireBy(set, t, sides) == hireFrom(t, sides)) {
                    return set;
                }
            }
            return 0;
        }
    }

    /** Shares loads among porters, so that the most pairs may go. */
    private static final class Loader {
        boolean known;
        int mostPairs;
        final int[] carriers = new int[LOADS];
        private final int[] trial = new int[LOADS];
        private final int[] weights = new int[PORTERS];
        /** Pairs that may go if they are unlike; others do so always or never. */
        private final int[] lesser = new int[SMALL_SETS.length];
        private final int[] other = new int[SMALL_SETS.length];
        private int pairs, alwaysPairs;

        void share(Camp camp) {
            if (known) {
                return;
            }
            known = true;
            for (int p = 0; p < camp.porterCount; p++) {
                weights[p] = camp.weightOf(p, 0);
            }
            findPairs(camp);
            mostPairs = NONE;
            giveLoad(camp, 0, 0);
        }

        private void findPairs(Camp camp) {
            pairs = 0;
            alwaysPairs = 0;
            for (int a = 0; a < camp.porterCount; a++) {
                for (int b = a + 1; b < camp.porterCount; b++) {
                    int set = 1 << a | 1 << b;
                    if (camp.hasNeverSo(set, false)) {
                        continue;
                    }
                    if (camp.hasGuide(set)) {
                        alwaysPairs++;
                    } else {
                        lesser[pairs] = a;
                        other[pairs] = b;
                        pairs++;
                    }
                }
            }
        }

        /** Tries all carriers of this load and of those behind it, nobody first; no deeper than there are loads. */
        private void giveLoad(Camp camp, int load, int carrying) {
            if (mostPairs == pairs + alwaysPairs) {
                return;
            }
            if (load >= camp.loadCount || load >= LOADS) {
                keepIfBetter(camp.numbers[GAP]);
                return;
            }
            for (int p = NONE; p < camp.porterCount; p++) {
                if (p == NONE || !hasPorterIn(carrying, p)) {
                    giveLoadTo(camp, load, carrying, p);
                }
            }
        }

        private void giveLoadTo(Camp camp, int load, int carrying, int p) {
            trial[load] = p;
            if (p == NONE) {
                giveLoad(camp, load + 1, carrying);
                return;
            }
            weights[p] += camp.loads[load];
            giveLoad(camp, load + 1, carrying | 1 << p);
            weights[p] -= camp.loads[load];
        }

        private void keepIfBetter(int gap) {
            int can = alwaysPairs;
            for (int i = 0; i < pairs; i++) {
                if (Math.abs(weights[lesser[i]] - weights[other[i]]) >= gap) {
                    can++;
                }
            }
            if (can > mostPairs) {
                mostPairs = can;
                System.arraycopy(trial, 0, carriers, 0, LOADS);
            }
        }
    }
}
