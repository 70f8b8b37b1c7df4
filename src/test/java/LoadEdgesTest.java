import java.util.List;
import java.util.function.Supplier;

/** Promises 15 to 19: every sentence that names a boundary of loads, falls and ropes. */
public final class LoadEdgesTest {
    private static final Edges e = new Edges();
    private static final String TWO = "porter 10 3 1 0;porter 14 4 2 2;";

    public static void main(String[] args) {
        load();
        unload();
        carriesRanges();
        carriesFirstRow();
        carriesGap();
        carriesMay();
        fellRanges();
        fellOfAll();
        fellMay();
        fellSides();
        ropesRanges();
        ropesPart();
        ropesYears();
        ropesWeights();
        e.finish();
    }

    private static OnlyTwo loaded(OnlyTwo x, int... loads) {
        for (int w : loads) {
            x.load(w);
        }
        return x;
    }

    private static void load() {
        e.promise(15, "load");
        for (Supplier<OnlyTwo> made : List.<Supplier<OnlyTwo>>of(Edges::none, Edges::some)) {
            e.range("LOADS are of 1 .. 20", made, (x, v) -> x.load(v), 1, 20, -2);
        }
        for (int count = 0; count < 5; count++) {
            int n = count;
            e.taken("LOADS 0 .. 4, as they come: " + n, () -> loaded(Edges.none(), new int[] {1, 2, 3, 4}, n), x -> x.load(20), n);
        }
        e.refused("FULL: 5", () -> loaded(Edges.none(), 1, 1, 1, 1, 1), x -> x.load(1), OnlyTwo.FULL, Edges.FULL);
        e.refused("FULL: the most", Edges::full, x -> x.load(20), OnlyTwo.FULL, Edges.FULL);
        e.refused("BAD ahead of FULL, 0", Edges::full, x -> x.load(0), OnlyTwo.BAD, Edges.BAD);
        e.refused("BAD ahead of FULL, 21", Edges::full, x -> x.load(21), OnlyTwo.BAD, Edges.BAD);
        e.taken("not FULL any more behind unload", Edges::full, x -> x.unload() + x.load(1), 5);
        e.taken("LOADS without PORTERS", Edges::none, x -> x.load(20), 0);
    }

    private static OnlyTwo loaded(OnlyTwo x, int[] loads, int count) {
        for (int i = 0; i < count; i++) {
            x.load(loads[i]);
        }
        return x;
    }

    private static void unload() {
        e.promise(16, "unload");
        e.leaves("there were none", Edges::none, OnlyTwo::unload, 0);
        e.taken("there was one", () -> loaded(Edges.none(), 20), OnlyTwo::unload, 1);
        e.taken("there were five", Edges::full, OnlyTwo::unload, 5);
        e.taken("no LOADS", Edges::full, x -> Edges.last(x.unload(), x.count(3)), 0);
        e.taken("twice", Edges::full, x -> x.unload() + x.unload(), 5);
        e.taken("the next is 0 again", Edges::full, x -> Edges.last(x.unload(), x.load(3)), 0);
        e.taken("nobody is heavier any more", () -> loaded(Edges.with(Edges.p(9, 1, 0, 0), Edges.p(9, 1, 0, 0)), 5),
            x -> 10 * x.carries(-1) + Edges.last(x.unload(), x.carries(-1)), 10);
        e.taken("PORTERS stay", Edges::full, x -> Edges.last(x.unload(), x.count(0)), 6);
    }

    private static void carriesRanges() {
        e.promise(17, "carries");
        for (int count = 0; count <= 5; count++) {
            int n = count;
            e.range("NONE, or a LOAD of " + n, () -> loaded(Edges.porters(3), new int[] {1, 20, 3, 4, 5}, n), (x, v) -> x.carries(v), -1, n - 1, -10);
            e.range("NONE, or a LOAD of " + n + ", no PORTERS", () -> loaded(Edges.none(), new int[] {1, 20, 3, 4, 5}, n), (x, v) -> x.carries(v), -1, n - 1, -10);
        }
        e.leaves("no PORTERS, no pairs", Edges::none, x -> x.carries(-1), 0);
        e.leaves("no PORTERS: nobody", () -> loaded(Edges.none(), 1, 2, 3, 4, 5), x -> x.carries(4), OnlyTwo.NONE);
        e.leaves("one PORTER, no pairs", () -> loaded(Edges.porters(1), 20), x -> x.carries(-1), 0);
        e.leaves("one PORTER: nobody", () -> loaded(Edges.porters(1), 20), x -> x.carries(0), OnlyTwo.NONE);
        e.leaves("no LOADS: pairs as they are", () -> Edges.porters(6), x -> x.carries(-1), 15);
    }

    private static OnlyTwo alike(int count, int... loads) {
        OnlyTwo x = Edges.none();
        for (int i = 0; i < count; i++) {
            x.porter(30, 1, 0, 0);
        }
        return loaded(x, loads);
    }

    private static void carriesFirstRow() {
        e.leaves("nobody ahead of all, if nothing is won", () -> loaded(Edges.porters(3), 1), x -> x.carries(0), OnlyTwo.NONE);
        e.leaves("the first PORTER next", () -> alike(2, 5), x -> x.carries(0), 0);
        e.leaves("the last LOAD rather than the first", () -> alike(2, 5, 5), x -> x.carries(0), OnlyTwo.NONE);
        e.leaves("the last LOAD rather than the first", () -> alike(2, 5, 5), x -> x.carries(1), 0);
        int[] due = {0, 1, 2, 3, 4};
        for (int i = 0; i < 5; i++) {
            int n = i;
            e.leaves("five LOADS, six PORTERS", () -> alike(6, 2, 4, 6, 8, 10), x -> x.carries(n), due[n]);
        }
        e.leaves("five LOADS, six PORTERS: all pairs", () -> alike(6, 2, 4, 6, 8, 10), x -> x.carries(-1), 15);
        e.leaves("five LOADS alike", () -> alike(6, 2, 2, 2, 2, 2), x -> x.carries(-1), 9);
        e.leaves("no two by one", () -> Edges.put(alike(2, 10, 10), 0, 20), x -> x.carries(-1), 0);
        e.leaves("no two by one: nobody", () -> Edges.put(alike(2, 10, 10), 0, 20), x -> x.carries(1), OnlyTwo.NONE);
        e.leaves("the last PORTER", () -> loaded(Edges.with(Edges.p(10, 1, 0, 0), Edges.p(10, 1, 0, 0), Edges.p(11, 1, 0, 0)), 1),
            x -> x.carries(0), 2);
        e.leaves("more LOADS than PORTERS", () -> alike(2, 1, 1, 1, 1, 2), x -> x.carries(4), 0);
        e.leaves("a LOAD by which fewer could go is left", () -> loaded(Edges.with(Edges.p(10, 1, 0, 0), Edges.p(12, 1, 0, 0)), 2),
            x -> x.carries(-1), 1);
    }

    private static void carriesGap() {
        for (int gap : new int[] {1, 2, 19, 20}) {
            e.leaves("a LOAD of GAP " + gap, () -> Edges.put(alike(2, gap), 0, gap), x -> x.carries(-1), 1);
            if (gap > 1) {
                e.leaves("a LOAD less than GAP " + gap, () -> Edges.put(alike(2, gap - 1), 0, gap), x -> x.carries(-1), 0);
            }
        }
        e.leaves("GAP 0: all pairs", () -> Edges.put(alike(6, 20), 0, 0), x -> x.carries(-1), 15);
        e.leaves("GAP 0: nobody need", () -> Edges.put(alike(6, 20), 0, 0), x -> x.carries(0), OnlyTwo.NONE);
        e.leaves("the heaviest with the most", () -> Edges.put(loaded(Edges.with(Edges.p(60, 1, 0, 0), Edges.p(60, 1, 0, 0)), 20), 0, 20),
            x -> x.carries(0), 0);
    }

    private static void carriesMay() {
        Supplier<OnlyTwo> heavy = () -> Edges.with(Edges.p(10, 1, 0, 2), Edges.p(10, 1, 0, 0), Edges.p(10, 1, 0, 4));
        e.leaves("in minute 0: EVENING 1", () -> Edges.put(heavy.get(), 1, 1), x -> x.carries(-1), 0);
        e.leaves("in minute 0: EVENING 0", () -> Edges.put(heavy.get(), 1, 0), x -> x.carries(-1), 2);
        e.leaves("by day, though NIGHT is 0", () -> Edges.put(Edges.porters(3), 3, 0), x -> x.carries(-1), 3);
        Supplier<OnlyTwo> kinds = () -> Edges.with(Edges.p(10, 30, 0, 3), Edges.p(20, 30, 0, 1), Edges.p(30, 1, 0, 3), Edges.p(20, 1, 0, 5));
        e.leaves("TIED goes with the one less alone, a GUIDE with all", kinds, x -> x.carries(-1), 2);
        e.leaves("a LOAD unties nobody", () -> loaded(kinds.get(), 20, 20), x -> x.carries(-1), 2);
        Supplier<OnlyTwo> guide = () -> {
            OnlyTwo x = alike(5);
            x.porter(30, 1, 0, 5);
            return x;
        };
        e.leaves("a GUIDE with all others", guide, x -> x.carries(-1), 5);
        e.leaves("a GUIDE with all others, and LOADS", () -> loaded(guide.get(), 2, 4, 6, 8), x -> x.carries(-1), 15);
        e.leaves("a GUIDE with all others, and LOADS", () -> loaded(guide.get(), 2, 4, 6, 8), x -> x.carries(3), 3);
        e.leaves("a GUIDE need carry nothing", () -> loaded(guide.get(), 9, 2, 4, 6, 8), x -> x.carries(0), OnlyTwo.NONE);
        e.leaves("a LOAD unties nobody", () -> loaded(kinds.get(), 20, 20), x -> x.carries(0), OnlyTwo.NONE);
        Supplier<OnlyTwo> afraid = () -> Edges.put(Edges.with(Edges.p(10, 1, 0, 4), Edges.p(20, 1, 0, 4)), 3, 0);
        e.leaves("AFRAID by day, though NIGHT is 0", afraid, x -> x.carries(-1), 1);
        e.taken("found anew behind put", () -> alike(2, 5), x -> Edges.last(x.carries(-1), x.put(0, 6), x.carries(-1)), 0);
        e.taken("found anew behind load", () -> alike(2), x -> Edges.last(x.carries(-1), x.load(2), x.carries(-1)), 1);
        e.taken("found anew behind porter", () -> alike(2), x -> Edges.last(x.carries(-1), x.porter(9, 1, 0, 0), x.carries(-1)), 2);
        e.taken("found anew behind from", () -> {
            OnlyTwo x = alike(2, 5);
            x.image(1);
            x.unload();
            x.carries(-1);
            return x;
        }, x -> Edges.last(x.from(1), x.carries(-1)), 1);
    }

    private static void fellRanges() {
        e.promise(18, "fell");
        for (int count = 0; count <= 6; count++) {
            int n = count;
            e.range("bits of those at SIDE 1, of " + n, () -> Edges.porters(n), (x, v) -> x.fell(v, 0, -1), 0, (1 << n) - 1, -10);
        }
        e.range("MINUTES are 0 .. 239", Edges::full, (x, v) -> x.fell(0, v, 0), 0, 239, -10);
        e.range("NONE, or the i-th", Edges::full, (x, v) -> x.fell(0, 0, v), -1, Integer.MAX_VALUE, -10);
        e.range("NONE, or the i-th, no PORTERS", Edges::none, (x, v) -> x.fell(0, 0, v), -1, Integer.MAX_VALUE, -10);
        e.refused("all wrong is refused once", Edges::some, x -> x.fell(8, 240, -2), -10, Edges.BAD);
    }

    private static void fellOfAll() {
        Supplier<OnlyTwo> six = () -> alike(6);
        int[] pairs = {1, 2, 3, 4, 5, 12, 13, 14, 15, 23, 24, 25, 34, 35, 45};
        e.leaves("all pairs of six", six, x -> x.fell(0, 0, -1), 15);
        for (int i = 0; i < pairs.length; i++) {
            int n = i;
            e.leaves("the " + i + "-th, by numbers", six, x -> x.fell(0, 0, n), pairs[n]);
            e.leaves("the " + i + "-th, by numbers, at SIDE 1", six, x -> x.fell(63, 239, n), pairs[n]);
        }
        e.leaves("-5: not so many", six, x -> x.fell(0, 0, 15), -5);
        e.leaves("-5: not so many, far off", six, x -> x.fell(0, 0, Integer.MAX_VALUE), -5);
        e.leaves("none", () -> Edges.porters(6), x -> x.fell(0, 0, -1), 0);
        e.leaves("-5: none", () -> Edges.porters(6), x -> x.fell(0, 0, 0), -5);
        e.leaves("no PORTERS", Edges::none, x -> x.fell(0, 0, -1), 0);
        e.leaves("no PORTERS, -5", Edges::none, x -> x.fell(0, 0, 0), -5);
        e.leaves("one PORTER", () -> alike(1), x -> x.fell(0, 0, -1), 0);
        e.leaves("one PORTER of the least WEIGHT, the most GAP", () -> Edges.put(Edges.with(Edges.p(1, 1, 0, 0)), 0, 20), x -> x.fell(0, 0, -1), 0);
        e.leaves("two PORTERS", () -> alike(2), x -> x.fell(0, 0, -1), 1);
    }

    private static void fellMay() {
        for (int gap : new int[] {1, 2, 19, 20}) {
            Supplier<OnlyTwo> made = () -> Edges.put(Edges.with(Edges.p(30, 1, 0, 0), Edges.p(30 + gap, 1, 0, 0)), 0, gap);
            e.leaves("GAP " + gap + " apart may go", made, x -> x.fell(0, 0, -1), 0);
            Supplier<OnlyTwo> nearer = () -> Edges.put(Edges.with(Edges.p(30, 1, 0, 0), Edges.p(29 + gap, 1, 0, 0)), 0, gap);
            e.leaves("GAP " + gap + " less one apart fell", nearer, x -> x.fell(0, 0, -1), 1);
        }
        e.leaves("GAP 0: none", () -> Edges.put(alike(6), 0, 0), x -> x.fell(0, 0, -1), 0);
        Supplier<OnlyTwo> heavy = () -> Edges.with(Edges.p(10, 1, 0, 2), Edges.p(10, 1, 0, 0), Edges.p(10, 1, 0, 4));
        e.leaves("ahead of EVENING", heavy, x -> x.fell(0, 119, -1), 3);
        e.leaves("from EVENING on", heavy, x -> x.fell(0, 120, -1), 1);
        e.leaves("from EVENING on", heavy, x -> x.fell(0, 120, 0), 2);
        e.leaves("by day, in a minute of the night", heavy, x -> x.fell(0, 180, 0), 2);
        e.leaves("by day, though NIGHT is 0", () -> Edges.put(heavy.get(), 3, 0), x -> x.fell(0, 0, -1), 3);
        Supplier<OnlyTwo> kinds = () -> Edges.with(Edges.p(10, 1, 0, 3), Edges.p(10, 1, 0, 0), Edges.p(10, 1, 0, 3), Edges.p(10, 1, 0, 5), Edges.p(10, 1, 0, 0));
        e.leaves("5 alone: neither 4 nor with a GUIDE", kinds, x -> x.fell(0, 0, -1), 2);
        e.leaves("TIED with the one less", kinds, x -> x.fell(0, 0, 0), 12);
        e.leaves("TIED with none of it", kinds, x -> x.fell(0, 0, 1), 14);
        e.leaves("unlike, but they do not end (6): they did not fall", () -> Edges.with(Edges.p(10, 30, 0, 0), Edges.p(20, 30, 0, 0)),
            x -> x.fell(0, 239, -1), 0);
        e.leaves("not unlike, and they do not end either: 5 comes ahead of 6", () -> Edges.with(Edges.p(10, 30, 0, 0), Edges.p(10, 30, 0, 0)),
            x -> x.fell(0, 239, -1), 1);
        e.leaves("LOADS do not count", () -> alike(2, 20), x -> x.fell(0, 0, -1), 1);
    }

    private static void fellSides() {
        Supplier<OnlyTwo> three = () -> alike(3);
        int[] due = {3, 1, 1, 1, 1, 1, 1, 3};
        for (int there = 0; there < 8; there++) {
            int bits = there;
            e.leaves("on one SIDE, " + bits + " at SIDE 1", three, x -> x.fell(bits, 0, -1), due[bits]);
        }
        e.leaves("both at SIDE 0", three, x -> x.fell(4, 0, 0), 1);
        e.leaves("both at SIDE 1", three, x -> x.fell(6, 0, 0), 12);
        e.leaves("the next is on two SIDES", three, x -> x.fell(6, 0, 1), -5);
        e.leaves("gos do not count, bits do", () -> Checks.dayOf("porter 9 1 0 0;porter 9 1 0 0;porter 9 1 0 5;go 0 0 2;"), x -> x.fell(0, 0, -1), 1);
    }

    private static void ropesRanges() {
        e.promise(19, "ropes");
        e.range("LIMIT is 1 .. 30000", Edges::none, (x, v) -> x.ropes(v), 1, 30000, -2);
        e.range("LIMIT is 1 .. 30000, with gos", Edges::full, (x, v) -> x.ropes(v), 1, 30000, -2);
        e.leaves("no gos: none in 99 years", Edges::none, x -> x.ropes(1), OnlyTwo.NONE);
        e.leaves("no gos, but PORTERS", () -> Edges.porters(6), x -> x.ropes(1), OnlyTwo.NONE);
    }

    private static void ropesPart() {
        Supplier<OnlyTwo> made = () -> Checks.dayOf(TWO + "go 0 0 1;go 0 0;go 0 1;");
        e.leaves("LIMIT 1: at once", made, x -> x.ropes(1), 0);
        e.leaves("they bear one less than the first go", made, x -> x.ropes(23), 0);
        e.leaves("they bear as much as the first go", made, x -> x.ropes(24), 1);
        e.leaves("they bear one less than two gos", made, x -> x.ropes(33), 1);
        e.leaves("they bear as much as two gos", made, x -> x.ropes(34), 2);
        e.leaves("they bear one less than a year", made, x -> x.ropes(47), 2);
        e.leaves("they bear as much as a year", made, x -> x.ropes(48), 100);
        Supplier<OnlyTwo> twenty = () -> Checks.dayOf("porter 1 1 0 0;" + "go 0 0;".repeat(20));
        e.leaves("the last of 20 gos", twenty, x -> x.ropes(19), 19);
        e.leaves("the first of the next year", twenty, x -> x.ropes(20), 100);
        e.leaves("the last go of year 98", twenty, x -> x.ropes(1979), 9819);
        e.leaves("not in 99 years", twenty, x -> x.ropes(1980), OnlyTwo.NONE);
    }

    private static void ropesYears() {
        Supplier<OnlyTwo> one = () -> Checks.dayOf("porter 1 1 0 0;go 0 0;");
        e.leaves("they bear year 0, and part in year 1", one, x -> x.ropes(1), 100);
        e.leaves("year 97", one, x -> x.ropes(97), 9700);
        e.leaves("year 98", one, x -> x.ropes(98), 9800);
        e.leaves("none in 99 years", one, x -> x.ropes(99), OnlyTwo.NONE);
        e.leaves("LIMIT 30000: none", () -> Checks.dayOf("porter 60 1 0 0;porter 60 1 0 0;porter 1 1 0 0;porter 2 1 0 0;go 0 0 1;go 0 0 1;go 0 0;go 0 2 3;"),
            x -> x.ropes(30000), OnlyTwo.NONE);
        e.leaves("LIMIT 30000: in year 98", () -> Checks.dayOf("porter 60 1 0 0;porter 60 1 0 0;porter 4 1 0 0;go 0 0 1;go 0 0 1;go 0 0 2;"),
            x -> x.ropes(30000), 9801);
        e.leaves("LIMIT 29997 and 303 a year: none", () -> Checks.dayOf("porter 60 1 0 0;porter 60 1 0 0;porter 3 1 0 0;go 0 0 1;go 0 0 1;go 0 0 2;"),
            x -> x.ropes(29997), OnlyTwo.NONE);
        e.leaves("LIMIT 29996 and 303 a year: the last go", () -> Checks.dayOf("porter 60 1 0 0;porter 60 1 0 0;porter 3 1 0 0;go 0 0 1;go 0 0 1;go 0 0 2;"),
            x -> x.ropes(29996), 9802);
    }

    private static void ropesWeights() {
        String late = "go 119 0 1;go 120 1;";
        e.leaves("WEIGHTS in their minute, one less than both", () -> Checks.dayOf(TWO + late), x -> x.ropes(24 + 16), 1);
        e.leaves("WEIGHTS in their minute, as much as both", () -> Checks.dayOf(TWO + late), x -> x.ropes(24 + 17), 100);
        e.leaves("whether they are ones or not: one by day", () -> Checks.dayOf(TWO + "go 0 0;"), x -> x.ropes(9), 0);
        e.leaves("whether they are ones or not: behind one that is none", () -> Checks.dayOf(TWO + "go 0 0;go 0 0;"), x -> x.ropes(19), 1);
        Supplier<OnlyTwo> most = () -> Edges.put(Edges.put(Checks.dayOf("porter60 1 0 2;porter60 1 0 2;" + "go0 0 1;".repeat(20)), 1, 0), 2, 20);
        e.leaves("the most a year: 3200", most, x -> x.ropes(30000), 907);
        e.leaves("the most a year: 3200", most, x -> x.ropes(28800 + 1120), 907);
        e.leaves("the most a year: 3200", most, x -> x.ropes(28800 + 1119), 906);
        e.leaves("LOADS do not count", () -> loaded(Checks.dayOf(TWO + "go 0 0;"), 20), x -> x.ropes(10), 100);
        e.taken("gos stay behind clear", () -> Checks.dayOf(TWO + "go 0 0;"), x -> Edges.last(x.clear(), x.ropes(10)), 100);
    }
}
