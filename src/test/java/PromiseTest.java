/** Each promise of the document by hand: ordinary inputs, the edges that are named, wrong inputs. */
public final class PromiseTest {
    private static final Checks c = new Checks();

    public static void main(String[] args) {
        newObject();
        porter();
        put();
        of();
        why();
        whyEdges();
        type();
        clear();
        read();
        readFaults();
        readEdges();
        judged();
        there();
        least();
        leastByNight();
        row();
        rowTakesIdleCrossings();
        worth();
        turns();
        load();
        unload();
        carries();
        fell();
        ropes();
        image();
        from();
        status();
        count();
        digest();
        c.finish();
    }

    private static OnlyTwo with(int[]... porters) {
        OnlyTwo x = new OnlyTwo();
        for (int[] p : porters) {
            x.porter(p[0], p[1], p[2], p[3]);
        }
        return x;
    }

    private static int[] p(int weight, int time, int hire, int kind) {
        return new int[] {weight, time, hire, kind};
    }

    /** Tells how many calls were refused as BAD, NO, FULL: 10000 BAD + 100 NO + FULL. */
    private static int refused(OnlyTwo x) {
        return 10000 * x.status(0) + 100 * x.status(1) + x.status(2);
    }

    private static void newObject() {
        OnlyTwo x = new OnlyTwo();
        for (int what = 0; what < 4; what++) {
            c.due("new count", x.count(what), 0);
        }
        for (int what = 0; what < 3; what++) {
            c.due("new status", x.status(what), 0);
        }
        c.due("new gap", x.put(0, 0), 2);
        c.due("new evening", x.put(1, 0), 120);
        c.due("new more", x.put(2, 0), 3);
        c.due("new night", x.put(3, 0), 180);
        c.due("new image 0", x.from(0), OnlyTwo.NO);
        c.due("new image 1", x.from(1), OnlyTwo.NO);
        c.due("new there", x.there(), 0);
        c.due("new judged", x.judged(), OnlyTwo.NONE);
        c.due("new carries", x.carries(-1), 0);
        c.due("new carries 0", x.carries(0), -10);
        c.due("NONE", OnlyTwo.NONE, -1);
        c.due("BAD", OnlyTwo.BAD, -2);
        c.due("NO", OnlyTwo.NO, -3);
        c.due("FULL", OnlyTwo.FULL, -4);
    }

    private static void porter() {
        OnlyTwo x = new OnlyTwo();
        int[][] wrong = {p(0, 1, 0, 0), p(61, 1, 0, 0), p(1, 0, 0, 0), p(1, 31, 0, 0), p(1, 1, -1, 0),
            p(1, 1, 100, 0), p(1, 1, 0, -1), p(1, 1, 0, 6), p(Integer.MIN_VALUE, 1, 0, 0), p(Integer.MAX_VALUE, 1, 0, 0)};
        for (int[] w : wrong) {
            c.due("porter wrong", x.porter(w[0], w[1], w[2], w[3]), -2);
        }
        c.due("count", x.count(0), 0);
        c.due("porter least", x.porter(1, 1, 0, 0), 0);
        c.due("porter most", x.porter(60, 30, 99, 5), 1);
        for (int i = 2; i < 6; i++) {
            c.due("porter", x.porter(10, 10, 10, i - 1), i);
        }
        long before = x.digest();
        c.due("7th", x.porter(10, 10, 10, 0), -4);
        c.due("7th wrong", x.porter(0, 10, 10, 0), -2);
        c.due("7th digest", x.digest(), before);
        c.due("refused", refused(x), 110001);
    }

    private static void put() {
        OnlyTwo x = new OnlyTwo();
        int[] highest = {20, 239, 20, 240};
        int[] first = {2, 120, 3, 180};
        for (int what = 0; what < 4; what++) {
            c.due("put too much", x.put(what, highest[what] + 1), -2);
            c.due("put too little", x.put(what, -1), -2);
            c.due("put most", x.put(what, highest[what]), first[what]);
            c.due("put least", x.put(what, 0), highest[what]);
            c.due("put again", x.put(what, 1), 0);
        }
        c.due("put what", x.put(4, 0), -2);
        c.due("put what", x.put(-1, 0), -2);
        c.due("put what", x.put(Integer.MIN_VALUE, 0), -2);
        c.due("refused", refused(x), 110000);
    }

    private static void of() {
        OnlyTwo x = with(p(10, 7, 0, 0), p(20, 7, 0, 1), p(30, 7, 0, 2), p(40, 7, 0, 3), p(50, 7, 0, 4), p(60, 7, 0, 5));
        int[] before = {10, 20, 30, 40, 50, 60};
        int[] behind = {10, 20, 33, 40, 53, 60};
        int[] time = {7, 14, 7, 14, 7, 7};
        for (int i = 0; i < 6; i++) {
            c.due("weight by day", x.of(i, 0, 0), before[i]);
            c.due("weight ahead of evening", x.of(i, 119, 0), before[i]);
            c.due("weight at evening", x.of(i, 120, 0), behind[i]);
            c.due("weight last", x.of(i, 239, 0), behind[i]);
            c.due("time", x.of(i, 0, 1), time[i]);
            c.due("time last", x.of(i, 239, 1), time[i]);
        }
        x.load(5);
        c.due("loads do not count", x.of(0, 0, 0), 10);
        x.put(1, 0);
        x.put(2, 20);
        c.due("evening from 0", x.of(2, 0, 0), 50);
        c.due("porter", x.of(6, 0, 0), -2);
        c.due("porter", x.of(-1, 0, 0), -2);
        c.due("minute", x.of(0, -1, 0), -2);
        c.due("minute", x.of(0, 240, 0), -2);
        c.due("what", x.of(0, 0, -1), -2);
        c.due("what", x.of(0, 0, 2), -2);
        c.due("nobody", new OnlyTwo().of(0, 0, 0), -2);
        c.due("refused", refused(x), 60000);
    }

    private static void why() {
        OnlyTwo x = with(p(10, 3, 0, 0), p(12, 3, 0, 3), p(11, 3, 0, 5), p(10, 30, 0, 1), p(11, 3, 0, 4));
        c.due("one by day", x.why(1, 0), 3);
        c.due("three by day", x.why(7, 0), 3);
        c.due("tied with the one less", x.why(3, 0), 0);
        c.due("tied with another", x.why(6, 0), 4);
        c.due("a guide", x.why(5, 0), 0);
        c.due("not unlike", x.why(9, 0), 5);
        c.due("afraid by day, not unlike", x.why(17, 0), 5);
        c.due("afraid is heavy by evening", x.why(17, 120), 0);
        c.due("ahead of night", x.why(1, 179), 3);
        c.due("at night one", x.why(1, 180), 0);
        c.due("at night two", x.why(5, 180), 3);
        c.due("at night tied", x.why(2, 180), 4);
        c.due("at night afraid", x.why(16, 180), 4);
        c.due("at night a guide", x.why(4, 239), 6);
        c.due("ends at 240", x.why(8, 180), 0);
        c.due("ends at 241", x.why(8, 181), 6);
        c.due("set", x.why(0, 0), -2);
        c.due("set", x.why(32, 0), -2);
        c.due("set", x.why(-1, 0), -2);
        c.due("minute", x.why(1, 240), -2);
        c.due("minute", x.why(1, -1), -2);
        c.due("refused", refused(x), 50000);
    }

    private static void whyEdges() {
        OnlyTwo x = with(p(10, 3, 0, 3), p(20, 3, 0, 3), p(12, 3, 0, 0), p(12, 3, 0, 0));
        c.due("tied 0 never", x.why(5, 0), 4);
        c.due("tied to one that never goes", x.why(3, 0), 4);
        c.due("tied with the one more", x.why(6, 0), 4);
        x.put(0, 0);
        c.due("gap 0", x.why(12, 0), 0);
        x.put(0, 1);
        c.due("gap 1", x.why(12, 0), 5);
        x.put(3, 240);
        c.due("no night", x.why(4, 239), 3);
        c.due("no night, two, not unlike comes ahead of the end", x.why(12, 239), 5);
        x.put(3, 0);
        c.due("night from 0", x.why(4, 0), 0);
        c.due("night from 0", x.why(12, 0), 3);
        OnlyTwo y = with(p(10, 3, 0, 2), p(11, 3, 0, 2), p(14, 3, 0, 0));
        c.due("ahead of evening", y.why(5, 119), 0);
        c.due("heavy comes nearer", y.why(5, 120), 5);
        c.due("both heavy", y.why(3, 120), 5);
    }

    private static void type() {
        OnlyTwo x = new OnlyTwo();
        c.due("n", x.type(0, 0), -2);
        c.due("n", x.type(0, 9), -2);
        c.due("n", x.type(0, -1), -2);
        c.due("type", x.type(0x1122334455667788L, 3), 3);
        c.due("the highest first", x.digest(), digestOf(digestStart(0, 0, 3, 0), 0x66, 0x77, 0x88));
        c.due("high bytes", x.type(-1L, 1), 4);
        c.due("a byte is 0 to 255", x.digest(), digestOf(digestStart(0, 0, 4, 0), 0x66, 0x77, 0x88, 255));
        for (int i = 1; i <= 24; i++) {
            c.due("type 8", x.type(0, 8), 4 + 8 * i);
        }
        long before = x.digest();
        c.due("type over", x.type(0, 5), -4);
        c.due("type over, wrong", x.type(0, 9), -2);
        c.due("nothing came", x.digest(), before);
        c.due("type to the end", x.type(0, 4), 200);
        c.due("type 201", x.type(0, 1), -4);
        c.due("refused", refused(x), 40002);
    }

    private static long digestOf(long before, int... values) {
        long h = before;
        for (int v : values) {
            h = 31 * h + v;
        }
        return h;
    }

    /** Without porters and gos: all that stands ahead of the bytes. */
    private static long digestStart(int porters, int gos, int bytes, int loads) {
        return digestOf(631, porters, gos, bytes, loads, 2, 120, 3, 180);
    }

    private static void clear() {
        OnlyTwo x = Checks.dayOf("porter 10 3 1 0;gap 7;go 0 0;");
        c.due("clear", x.clear(), 29);
        c.due("bytes", x.count(2), 0);
        c.due("porters stay", x.count(0), 1);
        c.due("gos stay", x.count(1), 1);
        c.due("numbers stay", x.put(0, 7), 7);
        c.due("clear again", x.clear(), 0);
        c.due("an empty day", x.read(), 0);
        c.due("takes porters", x.count(0), 0);
        c.due("takes gos", x.count(1), 0);
        c.due("takes numbers", x.put(0, 2), 2);
    }

    private static void read() {
        OnlyTwo x = with(p(1, 1, 1, 1));
        x.put(0, 9);
        x.put(3, 9);
        x.load(4);
        Checks.typeAll(x, " porter 10 3 1 0 ;porter 014 4 2 5;night 0;more 20;go 0 1;go 0 1 0;go 239 1;");
        c.due("least ahead of it", x.least(1, 0), 11);
        c.due("read", x.read(), 3);
        c.due("least behind it", x.least(1, 0), 3);
        c.due("porters", x.count(0), 2);
        c.due("weight", x.of(1, 0, 0), 14);
        c.due("gap as at first", x.put(0, 2), 2);
        c.due("evening as at first", x.put(1, 120), 120);
        c.due("more", x.put(2, 3), 20);
        c.due("night", x.put(3, 180), 0);
        c.due("loads stay", x.count(3), 1);
        c.due("bytes stay", x.count(2), 76);
        long h = digestOf(631, 2, 3, 0, 1, 10, 3, 1, 0, 14, 4, 2, 5, 2, 120, 3, 180, 0, 2, 0, 3, 239, 2, 4);
        x.clear();
        c.due("all that was read", x.digest(), h);
        c.due("refused", refused(x), 0);
    }

    private static void readFaults() {
        Object[][] faults = {
            {"x", 0}, {"ga", 0}, {"gapp 1;", 0}, {"gapz 1;", 0}, {"agap 1;", 0}, {"ga{p 1;", 0}, {"gap{1;", 3}, {"gap`1;", 3}, {"gap/1;", 3},
            {"gap 1:;", 5}, {"Gap 1;", 0}, {";", 0}, {" ;", 1}, {"5;", 0}, {"\t", 0}, {"gap 1;;", 6},
            {"gap", 3}, {"gap ", 4}, {"gap 1", 5}, {"gap 1  ", 7}, {"gap 1 1;", 6}, {"gap;", 3}, {"gap 21", 4},
            {"gap 0001;", 4}, {"gap 1234", 4}, {"gap 1!", 5}, {"gap!", 3}, {"gap gap", 4}, {"gap -1;", 4},
            {"gap 1;\u00ff", 6}, {"gap 1\u0000;", 5}, {"evening 240;", 8}, {"more 21;", 5}, {"night 241;", 6},
            {"porter 0 1 1 1;", 7}, {"porter 61 1 1 1;", 7}, {"porter 1 0 1 1;", 9}, {"porter 1 31 1 1;", 9},
            {"porter 1 1 100 1;", 11}, {"porter 1 1 1 6;", 13}, {"porter 1 1 1;", 12}, {"porter 1 1 1 1 1;", 15},
            {"porter 1 1 1 1", 14}, {"porter", 6}, {"go 0 0;", 5}, {"go;", 2}, {"go 240", 3}, {"go 1000 0;", 3},
            {"porter 1 1 1 1;go 0 1;", 20}, {"porter 1 1 1 1;go 0 0 1;", 22}, {"porter 1 1 1 1;go 0 0 0;", 22},
            {"porter 1 1 1 1;go 0;", 19}, {"porter 1 1 1 1;go 5 0;go 4 0;", 25}, {"porter 1 1 1 1;go 0 0 0000;", 22},
            {"porter 1 1 1 1;porter 1 1 1 1;go 0 0 1 0;", 39}, {"porter 1 1 1 1;porter 1 1 1 1;go 0 0 1", 38}};
        for (Object[] f : faults) {
            c.due("read of '" + f[0] + "'", Checks.readOf((String) f[0]), -10 - (Integer) f[1]);
        }
        OnlyTwo x = Checks.dayOf("porter 10 3 1 0;gap 7;go 0 0;");
        Checks.typeAll(x, "gap 3;porter 1 1 1 1;go 1 0;x");
        long before = x.digest();
        c.due("fault", x.read(), -10 - 57);
        c.due("all stays", x.digest(), before);
        c.due("a fault is not refused", refused(x), 0);
    }

    private static void readEdges() {
        c.due("blanks alone", Checks.readOf("   "), 0);
        c.due("empty", Checks.readOf(""), 0);
        c.due("no blanks needed", Checks.readOf("porter1 1 1 1;go0 0;"), 1);
        c.due("a number told twice", Checks.dayOf("gap 4;gap 5;").put(0, 0), 5);
        c.due("highest numbers", Checks.readOf("gap 20;evening 239;more 20;night 240;"), 0);
        String six = "porter 1 1 0 0;porter 1 1 0 0;porter 1 1 0 0;porter 1 1 0 0;porter 1 1 0 0;porter 60 30 99 5;";
        c.due("six porters", Checks.readOf(six + "go 0 5;"), 1);
        c.due("a 7th at its word", Checks.readOf(six + " porter x"), -10 - six.length() - 1);
        StringBuilder gos = new StringBuilder("porter 1 1 0 0;");
        for (int i = 0; i < 20; i++) {
            gos.append("go 9 0;");
        }
        c.due("twenty gos", Checks.readOf(gos.toString()), 20);
        c.due("a 21st at its word", Checks.readOf(gos + "go 0"), -10 - gos.length());
        bytesBehindTheEnd();
        OnlyTwo x = Checks.dayOf("porter 1 1 1 1;go 50 0;");
        x.clear();
        Checks.typeAll(x, "porter 1 1 1 1;go 40 0;");
        c.due("the go ahead is of this text alone", x.read(), 1);
    }

    /** What an earlier text had behind this one's end, and a text that has no byte to spare. */
    private static void bytesBehindTheEnd() {
        OnlyTwo x = Checks.dayOf("gapx123;    ");
        x.clear();
        c.due("gap", Checks.typeAll(x, "gap"), 3);
        c.due("no letter behind the end", x.read(), -13);
        Checks.typeAll(x, " 1");
        c.due("no figure behind the end", x.read(), -15);
        c.due("the last is a letter", Checks.readOf(" ".repeat(197) + "gap"), -210);
        c.due("the last is a figure", Checks.readOf(" ".repeat(195) + "gap 1"), -210);
        c.due("the last is a blank", Checks.readOf("gap 1" + " ".repeat(195)), -210);
        c.due("the last ends it", Checks.readOf(" ".repeat(194) + "gap 1;"), 0);
    }

    private static void judged() {
        String three = "porter 10 3 1 0;porter 14 4 2 0;porter 12 2 0 5;";
        Object[][] days = {
            {"go 0 0 1;", -1}, {"go 0 0 1;go 3 0 1;", 11}, {"go 0 0 1;go 4 0 1;", -1}, {"go 0 0 1;go 4 0 2;", 12},
            {"go 0 0 1;go 3 0 2;", 11}, {"go 0 0;", 3}, {"go 180 0;", -1}, {"go 180 0 1;", 3}, {"night 240;go 239 0 1;", 6},
            {"gap 5;go 0 0 1;", 5}, {"gap 5;go 0 0 2;", -1}, {"gap 5;go 0 0 2;go 2 0 2;", 11}, {"go 0 0 2;go 3 0 1;", 12},
            {"go 0 0 1;go 4 0 1;go 8 0 1;go 12 1 2;", 32}};
        for (Object[] d : days) {
            c.due("judged " + d[0], Checks.dayOf(three + d[0]).judged(), (Integer) d[1]);
        }
        c.due("tied", Checks.dayOf("porter 10 3 1 0;porter 14 3 1 0;porter 20 3 1 3;go 0 0 2;").judged(), 4);
        c.due("afraid", Checks.dayOf("porter 10 3 1 4;go 180 0;").judged(), 4);
        c.due("ends at 240", Checks.dayOf("porter 10 3 1 0;go 237 0;").judged(), -1);
        c.due("ends at 241", Checks.dayOf("porter 10 3 1 0;go 238 0;").judged(), 6);
        OnlyTwo x = Checks.dayOf(three + "go 0 0 1;");
        x.put(0, 5);
        c.due("by the numbers as they are", x.judged(), 5);
    }

    private static void there() {
        String three = "porter 10 3 1 0;porter 14 4 2 0;porter 12 2 0 5;";
        c.due("all", Checks.dayOf(three + "go 0 0 1;").there(), 3);
        c.due("back", Checks.dayOf(three + "go 0 0 1;go 4 0 1;").there(), 0);
        c.due("back and forth", Checks.dayOf(three + "go 0 0 1;go 4 0 1;go 9 1 2;").there(), 6);
        c.due("ahead of the first that is none", Checks.dayOf(three + "go 0 0 1;go 4 0;go 9 0 1;").there(), 3);
        c.due("the first is none", Checks.dayOf(three + "go 0 0;go 9 0 1;").there(), 0);
    }

    private static void least() {
        OnlyTwo x = with(p(10, 3, 2, 0), p(11, 4, 0, 0), p(14, 2, 5, 0), p(15, 6, 1, 0));
        c.due("minutes", x.least(1, 0), 3);
        c.due("hire", x.least(1, 1), 7);
        c.due("crossings", x.least(1, 2), 1);
        c.due("all", x.least(15, 0), 9);
        c.due("empty", x.least(0, 0), 0);
        c.due("empty", x.least(0, 1), 0);
        c.due("empty", x.least(0, 2), 0);
        c.due("hire again", x.least(1, 1), 7);
        c.due("a porter changes it", x.porter(20, 1, 0, 0), 4);
        c.due("hire with another", x.least(1, 1), 2);
        c.due("band", x.least(32, 0), -2);
        c.due("band", x.least(-1, 0), -2);
        c.due("what", x.least(0, 3), -2);
        c.due("what", x.least(0, -1), -2);
        c.due("refused", refused(x), 40000);
        c.due("tied 0", with(p(10, 3, 2, 3), p(20, 1, 1, 0)).least(1, 0), -1);
        c.due("tied 0", with(p(10, 3, 2, 3), p(20, 1, 1, 0)).least(1, 2), -1);
        c.due("none is not refused", refused(with(p(10, 3, 2, 3))), 0);
    }

    private static void leastByNight() {
        OnlyTwo one = with(p(10, 30, 7, 1));
        c.due("waits for night", one.least(1, 0), 240);
        c.due("waits for night", one.least(1, 1), 7);
        c.due("waits for night", one.row(1, 0), 180 * 64 + 1);
        one.put(3, 181);
        c.due("not by 240", one.least(1, 0), -1);
        c.due("not by 240", one.least(1, 1), -1);
        c.due("not by 240", one.row(1, 0), -5);
        one.put(3, 0);
        c.due("at once", one.least(1, 0), 60);
        OnlyTwo heavy = with(p(10, 1, 0, 0), p(10, 1, 0, 2));
        c.due("waits for evening", heavy.least(3, 0), 121);
        c.due("waits for evening", heavy.row(3, 0), 120 * 64 + 3);
        heavy.put(3, 0);
        heavy.put(1, 0);
        c.due("one by one", heavy.least(3, 0), 2);
        c.due("least bits first", heavy.row(3, 0), 1);
        c.due("then the other", heavy.row(3, 1), 64 + 2);
    }

    private static void row() {
        OnlyTwo x = with(p(10, 3, 2, 1), p(12, 3, 2, 2), p(10, 3, 2, 3), p(11, 5, 0, 4), p(11, 4, 9, 5), p(30, 30, 0, 3));
        x.put(1, 10);
        x.put(2, 5);
        c.due("row 0", x.row(31, 0), 6);
        c.due("row 1", x.row(31, 1), 6 * 64 + 48);
        c.due("row 2", x.row(31, 2), 66 * 64 + 9);
        c.due("row 3", x.row(31, 3), -5);
        c.due("row far", x.row(31, Integer.MAX_VALUE), -5);
        c.due("row of none", x.row(0, 0), -5);
        c.due("band", x.row(64, 0), -10);
        c.due("band", x.row(-1, 0), -10);
        c.due("i", x.row(0, -1), -10);
        c.due("i", x.row(0, Integer.MIN_VALUE), -10);
        c.due("refused", refused(x), 40000);
    }

    /** Crossings that cost nothing stand ahead of waiting, as the row is the first by least bits. */
    private static void rowTakesIdleCrossings() {
        OnlyTwo x = with(p(10, 1, 0, 0), p(20, 1, 0, 0), p(20, 1, 0, 0));
        x.put(3, 3);
        c.due("two by day, the third at night", x.least(7, 0), 4);
        c.due("crossings", x.least(7, 2), 4);
        c.due("row 0", x.row(7, 0), 3);
        c.due("row 1", x.row(7, 1), 64 + 3);
        c.due("row 2", x.row(7, 2), 128 + 3);
        c.due("row 3", x.row(7, 3), 192 + 4);
        OnlyTwo y = with(p(10, 1, 1, 0), p(20, 1, 0, 0), p(20, 1, 0, 0));
        y.put(3, 3);
        c.due("for hire nobody goes in vain", y.least(7, 2), 2);
        c.due("hire", y.least(7, 1), 1);
        c.due("row 0", y.row(7, 0), 3);
        c.due("row 1", y.row(7, 1), 192 + 4);
    }

    private static void worth() {
        OnlyTwo x = with(p(10, 3, 2, 0), p(11, 4, 0, 0), p(14, 2, 5, 0), p(15, 6, 1, 0), p(30, 1, 0, 3));
        c.due("slower, for less hire", x.worth(1, 2), -4);
        c.due("worth", x.worth(3, 3), -1);
        c.due("empty", x.worth(0, 0), 0);
        c.due("tied to one that lacks", x.worth(16, 3), -2000);
        c.due("refused NO", x.status(1), 1);
        c.due("of the band", x.worth(7, 0), -1000);
        c.due("band", x.worth(32, 0), -1000);
        c.due("band", x.worth(-1, 0), -1000);
        c.due("porter", x.worth(0, 5), -1000);
        c.due("porter", x.worth(0, -1), -1000);
        c.due("porter", x.worth(0, 32), -1000);
        c.due("refused", refused(x), 60100);
        OnlyTwo y = with(p(10, 3, 2, 3), p(20, 3, 2, 0));
        c.due("neither", y.worth(1, 1), -2000);
        c.due("refused", refused(y), 100);
        c.due("least behind worth is of all", x.least(1, 1), 7);
    }

    private static void turns() {
        OnlyTwo x = with(p(10, 3, 2, 1), p(12, 3, 2, 2), p(10, 3, 2, 3), p(11, 5, 0, 4), p(11, 4, 9, 5), p(30, 30, 0, 3));
        c.due("both at once", x.turns(0, 0), 1);
        c.due("a at once", x.turns(0, 3), 1);
        c.due("b at once", x.turns(3, 0), 2);
        c.due("a first", x.turns(3, 48), 1);
        c.due("a first", x.turns(48, 3), 1);
        c.due("one alone can not", x.turns(1, 2), 0);
        c.due("three can not", x.turns(7, 24), 2);
        c.due("b can not", x.turns(24, 7), 1);
        c.due("two turns against one", x.turns(54, 9), 1);
        x.put(3, 0);
        c.due("by day, whatever night is", x.turns(24, 3), 1);
        c.due("evening is not yet", x.turns(9, 0), 2);
        c.due("not unlike", x.turns(9, 6), 2);
        x.put(1, 0);
        c.due("evening in minute 0", x.turns(9, 6), 1);
        x.put(1, 1);
        c.due("evening in minute 1", x.turns(9, 6), 2);
        c.due("four in two turns", x.turns(15, 48), 2);
        c.due("alike", x.turns(3, 1), -2);
        c.due("band", x.turns(64, 0), -2);
        c.due("band", x.turns(0, 64), -2);
        c.due("band", x.turns(-1, 0), -2);
        c.due("band", x.turns(0, -1), -2);
        c.due("refused", refused(x), 50000);
    }

    private static void load() {
        OnlyTwo x = new OnlyTwo();
        c.due("load", x.load(0), -2);
        c.due("load", x.load(21), -2);
        c.due("load", x.load(Integer.MIN_VALUE), -2);
        int[] loads = {1, 20, 3, 4, 5};
        for (int i = 0; i < 5; i++) {
            c.due("load", x.load(loads[i]), i);
        }
        c.due("6th", x.load(1), -4);
        c.due("6th wrong", x.load(0), -2);
        c.due("refused", refused(x), 40001);
        c.due("count", x.count(3), 5);
    }

    private static void unload() {
        OnlyTwo x = with(p(10, 1, 0, 0), p(10, 1, 0, 0));
        c.due("none", x.unload(), 0);
        x.load(5);
        x.load(6);
        c.due("most", x.carries(-1), 1);
        c.due("two", x.unload(), 2);
        c.due("no more", x.count(3), 0);
        c.due("most without", x.carries(-1), 0);
        c.due("from 0 again", x.load(7), 0);
    }

    private static void carries() {
        OnlyTwo x = with(p(10, 1, 0, 0), p(10, 1, 0, 0), p(11, 1, 0, 0));
        c.due("without", x.carries(-1), 0);
        x.load(2);
        c.due("one", x.carries(-1), 2);
        c.due("the first who does", x.carries(0), 2);
        x.load(2);
        x.load(5);
        c.due("three", x.carries(-1), 3);
        c.due("nobody ahead of all", x.carries(0), -1);
        c.due("then the first", x.carries(1), 0);
        c.due("then the other", x.carries(2), 2);
        c.due("i", x.carries(3), -10);
        c.due("i", x.carries(-2), -10);
        c.due("refused", refused(x), 20000);
        x.put(0, 0);
        c.due("gap 0", x.carries(-1), 3);
        c.due("nobody need carry", x.carries(2), -1);
        OnlyTwo y = with(p(10, 1, 0, 0), p(12, 1, 0, 2), p(50, 1, 0, 3), p(30, 1, 0, 4));
        y.put(3, 0);
        c.due("by day, tied with one", y.carries(-1), 4);
        y.put(1, 0);
        y.put(2, 20);
        y.put(0, 20);
        c.due("heavy in minute 0", y.carries(-1), 2);
        carriesHeavy();
        OnlyTwo z = new OnlyTwo();
        z.load(3);
        c.due("nobody there", z.carries(0), -1);
        c.due("nobody there", z.carries(-1), 0);
    }

    private static void carriesHeavy() {
        OnlyTwo x = with(p(10, 1, 0, 2), p(10, 1, 0, 0), p(10, 1, 0, 5));
        c.due("the guide with both", x.carries(-1), 2);
        x.put(1, 1);
        c.due("heavy from minute 1", x.carries(-1), 2);
        x.put(1, 0);
        c.due("heavy from minute 0", x.carries(-1), 3);
        x.put(1, 120);
        x.load(1);
        x.load(2);
        c.due("one load is enough", x.carries(-1), 3);
        c.due("nobody has the first", x.carries(0), -1);
        c.due("0 has the other", x.carries(1), 0);
    }

    private static void fell() {
        OnlyTwo x = with(p(10, 1, 0, 0), p(10, 1, 0, 0), p(11, 1, 0, 2), p(10, 1, 0, 5), p(11, 1, 0, 3), p(11, 1, 0, 4));
        c.due("how many", x.fell(0, 0, -1), 6);
        int[] pairs = {1, 2, 5, 12, 15, 25};
        for (int i = 0; i < pairs.length; i++) {
            c.due("the i-th", x.fell(0, 0, i), pairs[i]);
        }
        c.due("not so many", x.fell(0, 0, 6), -5);
        c.due("not so many", x.fell(0, 0, Integer.MAX_VALUE), -5);
        c.due("on one side", x.fell(1, 0, -1), 3);
        c.due("on one side", x.fell(3, 0, 0), 1);
        c.due("on one side", x.fell(3, 0, 1), 25);
        c.due("by evening", x.fell(0, 120, -1), 2);
        c.due("by day at night, too", x.fell(0, 200, 1), 25);
        c.due("there", x.fell(64, 0, 0), -10);
        c.due("there", x.fell(-1, 0, 0), -10);
        c.due("minute", x.fell(0, 240, 0), -10);
        c.due("minute", x.fell(0, -1, 0), -10);
        c.due("i", x.fell(0, 0, -2), -10);
        c.due("refused", refused(x), 50000);
    }

    private static void ropes() {
        OnlyTwo x = Checks.dayOf("porter 10 3 1 0;porter 14 4 2 2;go 0 0 1;go 0 0;go 120 1;");
        c.due("in a year 51", x.ropes(51), 100);
        c.due("less than a year", x.ropes(50), 2);
        c.due("they bear as much", x.ropes(24), 1);
        c.due("they do not bear one more", x.ropes(23), 0);
        c.due("in year 98", x.ropes(51 * 99 - 1), 9802);
        c.due("none in 99 years", x.ropes(51 * 99), -1);
        c.due("most", x.ropes(30000), -1);
        c.due("limit", x.ropes(0), -2);
        c.due("limit", x.ropes(30001), -2);
        c.due("limit", x.ropes(-1), -2);
        c.due("refused", refused(x), 30000);
        c.due("no gos", new OnlyTwo().ropes(1), -1);
    }

    private static void image() {
        OnlyTwo x = Checks.dayOf("porter 10 3 1 0;go 0 0;");
        x.load(3);
        c.due("image", x.image(1), 1);
        c.due("i", x.image(2), -2);
        c.due("i", x.image(-1), -2);
        c.due("refused", refused(x), 20000);
        c.due("0 was not kept", x.from(0), -3);
    }

    private static void from() {
        OnlyTwo x = Checks.dayOf("porter 10 3 1 0;gap 6;go 0 0;");
        x.load(3);
        x.image(0);
        long first = x.digest();
        x.porter(15, 1, 1, 0);
        x.put(0, 1);
        x.put(3, 0);
        x.unload();
        x.clear();
        x.read();
        x.porter(9, 9, 9, 0);
        x.image(1);
        long second = x.digest();
        x.porter(0, 0, 0, 0);
        c.due("least ahead", x.least(1, 0), 189);
        c.due("from 0", x.from(0), 1);
        c.due("all is back", x.digest(), first);
        c.due("least behind", x.least(1, 0), 183);
        c.due("status is not", x.status(0), 1);
        c.due("from 1", x.from(1), 1);
        c.due("the other", x.digest(), second);
        x.image(0);
        c.due("images are not", x.from(0), 1);
        c.due("kept anew", x.digest(), second);
        c.due("i", x.from(2), -2);
        c.due("i", x.from(-1), -2);
        c.due("none", new OnlyTwo().from(0), -3);
    }

    private static void status() {
        OnlyTwo x = with(p(1, 1, 1, 0));
        c.due("another what", x.status(3), -1);
        c.due("counts as BAD", x.status(0), 1);
        c.due("another what", x.status(-1), -1);
        c.due("counts as BAD", x.status(0), 2);
        x.from(0);
        x.worth(0, 9);
        x.row(9, 0);
        x.fell(9, 0, 0);
        x.carries(9);
        c.due("others count as these", x.status(0), 6);
        c.due("NO", x.status(1), 1);
        c.due("FULL", x.status(2), 0);
        x.row(0, 0);
        x.fell(0, 0, 0);
        c.due("-5 does not", x.status(0), 6);
    }

    private static void count() {
        OnlyTwo x = Checks.dayOf("porter 10 3 1 0;porter 10 3 1 0;go 0 0;go 0 0;go 1 0 1;");
        x.load(4);
        c.due("porters", x.count(0), 2);
        c.due("gos", x.count(1), 3);
        c.due("bytes", x.count(2), 55);
        c.due("loads", x.count(3), 1);
        c.due("what", x.count(4), -2);
        c.due("what", x.count(-1), -2);
        c.due("refused", refused(x), 20000);
    }

    private static void digest() {
        OnlyTwo x = Checks.dayOf("porter 10 3 1 1;go 7 0;");
        x.load(4);
        x.load(2);
        x.put(2, 9);
        long h = digestOf(631, 1, 1, 23, 2, 10, 3, 1, 1, 2, 120, 9, 180, 7, 1);
        for (char b : "porter 10 3 1 1;go 7 0;".toCharArray()) {
            h = 31 * h + b;
        }
        c.due("digest", x.digest(), digestOf(h, 4, 2));
        c.due("digest of a new one", new OnlyTwo().digest(), digestStart(0, 0, 0, 0));
    }
}
