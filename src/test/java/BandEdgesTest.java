import java.util.function.Supplier;

/** Promises 11 to 14: every sentence that names a boundary of bands, their rows, worth and turns. */
public final class BandEdgesTest {
    private static final Edges e = new Edges();

    public static void main(String[] args) {
        leastRanges();
        leastByTheEnd();
        leastFewestThenLeast();
        leastOfEveryPair();
        leastGoesBack();
        leastAnew();
        rowRanges();
        rowFirst();
        rowOfEveryMinute();
        worthRanges();
        worthNone();
        worthValues();
        turnsRanges();
        turnsAtOnce();
        turnsOrder();
        turnsMay();
        e.finish();
    }

    private static void leastRanges() {
        e.promise(11, "least");
        for (int count = 0; count <= 6; count++) {
            int n = count;
            e.range("a BAND of " + n, () -> Edges.porters(n), (x, v) -> x.least(v, 0), 0, (1 << n) - 1, -2);
        }
        e.range("minutes (0), HIRE (1), CROSSINGS (2)", Edges::some, (x, v) -> x.least(7, v), 0, 2, -2);
        e.range("minutes (0), HIRE (1), CROSSINGS (2), of none", Edges::none, (x, v) -> x.least(0, v), 0, 2, -2);
        e.refused("both wrong is refused once", Edges::some, x -> x.least(8, 3), OnlyTwo.BAD, Edges.BAD);
        for (int what = 0; what < 3; what++) {
            int n = what;
            e.leaves("an empty BAND is there at once, " + n, Edges::full, x -> x.least(0, n), 0);
            e.leaves("an empty BAND of no PORTERS, " + n, Edges::none, x -> x.least(0, n), 0);
        }
    }

    /** One that has to wait for the night, and two that have to wait for the evening. */
    private static void leastByTheEnd() {
        Supplier<OnlyTwo> lame = () -> Edges.with(Edges.p(10, 30, 99, 1));
        Supplier<OnlyTwo> late = () -> Edges.put(lame.get(), 3, 181);
        int[] due = {240, 99, 1};
        for (int what = 0; what < 3; what++) {
            int n = what;
            e.leaves("by minute 240, " + n, lame, x -> x.least(1, n), due[n]);
            e.leaves("NONE: not by minute 240, " + n, late, x -> x.least(1, n), OnlyTwo.NONE);
        }
        Supplier<OnlyTwo> heavy = () -> Edges.put(Edges.with(Edges.p(10, 30, 7, 1), Edges.p(10, 1, 8, 2)), 3, 240);
        e.leaves("two by minute 240", () -> Edges.put(heavy.get(), 1, 180), x -> x.least(3, 0), 240);
        e.leaves("two by minute 240, HIRE", () -> Edges.put(heavy.get(), 1, 180), x -> x.least(3, 1), 15);
        e.leaves("two not by minute 240", () -> Edges.put(heavy.get(), 1, 181), x -> x.least(3, 0), OnlyTwo.NONE);
        Supplier<OnlyTwo> last = () -> Edges.put(Edges.with(Edges.p(10, 1, 0, 0)), 3, 239);
        e.leaves("NIGHT in the last minute", last, x -> x.least(1, 0), 240);
        e.leaves("no NIGHT", () -> Edges.put(last.get(), 3, 240), x -> x.least(1, 0), OnlyTwo.NONE);
        e.leaves("NIGHT 0", () -> Edges.put(last.get(), 3, 0), x -> x.least(1, 0), 1);
        Supplier<OnlyTwo> alike = () -> {
            OnlyTwo x = Edges.put(Edges.none(), 3, 234);
            for (int i = 0; i < 6; i++) {
                x.porter(30, 1, 1, 0);
            }
            return x;
        };
        e.leaves("all six by minute 240", alike, x -> x.least(63, 0), 240);
        e.leaves("all six by minute 240, the last of them", alike, x -> x.row(63, 5), 239 * 64 + 32);
        e.leaves("all six not by minute 240", () -> Edges.put(alike.get(), 3, 235), x -> x.least(63, 0), OnlyTwo.NONE);
        e.leaves("five by minute 240", () -> Edges.put(alike.get(), 3, 235), x -> x.least(31, 0), 240);
        e.leaves("TIED 0 never", () -> Edges.with(Edges.p(10, 1, 0, 3), Edges.p(20, 1, 0, 0)), x -> x.least(1, 0), OnlyTwo.NONE);
        e.leaves("AFRAID alone never", () -> Edges.with(Edges.p(10, 1, 0, 4)), x -> x.least(1, 0), OnlyTwo.NONE);
        e.leaves("NONE is not refused", late, x -> x.least(1, 0), -1);
    }

    private static void leastFewestThenLeast() {
        Supplier<OnlyTwo> made = () -> Edges.with(Edges.p(10, 2, 0, 0), Edges.p(20, 2, 99, 0), Edges.p(30, 3, 0, 0), Edges.p(40, 2, 98, 0));
        e.leaves("the fewest minutes", made, x -> x.least(1, 0), 2);
        e.leaves("then the least HIRE, though more minutes cost less", made, x -> x.least(1, 1), 98);
        e.leaves("others wherever they are", made, x -> x.row(1, 0), 9);
        e.leaves("the most HIRE of two", () -> Edges.with(Edges.p(1, 1, 99, 0), Edges.p(60, 1, 99, 0)), x -> x.least(3, 1), 198);
        e.leaves("the least HIRE of two", () -> Edges.with(Edges.p(1, 1, 0, 0), Edges.p(60, 1, 0, 0)), x -> x.least(3, 1), 0);
        Supplier<OnlyTwo> night = () -> Edges.put(Edges.porters(6), 3, 0);
        e.leaves("one by one at night, minutes", night, x -> x.least(63, 0), 6);
        e.leaves("one by one at night, HIRE", night, x -> x.least(63, 1), 15);
        e.leaves("one by one at night, CROSSINGS", night, x -> x.least(63, 2), 6);
        e.leaves("two by two by day", () -> Edges.porters(6), x -> x.least(63, 2), 3);
        Supplier<OnlyTwo> back = () -> Edges.put(Edges.with(Edges.p(10, 1, 1, 0), Edges.p(10, 1, 1, 0), Edges.p(12, 1, 1, 5)), 3, 3);
        e.leaves("three wait for the night, rather than go back", back, x -> x.least(7, 0), 4);
        Supplier<OnlyTwo> gap = () -> Edges.put(Edges.with(Edges.p(10, 1, 0, 0), Edges.p(30, 1, 0, 0)), 0, 20);
        e.leaves("GAP apart at least", gap, x -> x.least(3, 0), 1);
        e.leaves("not GAP apart: at night", () -> Edges.put(Edges.with(Edges.p(10, 1, 0, 0), Edges.p(11, 1, 0, 0)), 0, 2), x -> x.least(3, 0), 182);
    }

    private static void leastOfEveryPair() {
        for (int a = 0; a < 6; a++) {
            for (int b = a + 1; b < 6; b++) {
                int pair = 1 << a | 1 << b;
                e.leaves("two by day, " + pair, () -> Edges.porters(6), x -> x.least(pair, 0), 1);
                e.leaves("two by day, " + pair, () -> Edges.porters(6), x -> x.row(pair, 0), pair);
                e.leaves("two by day, HIRE, " + pair, () -> Edges.porters(6), x -> x.least(pair, 1), a + b);
            }
            int one = 1 << a;
            e.leaves("one at night, " + one, () -> Edges.put(Edges.porters(6), 3, 0), x -> x.row(one, 0), one);
        }
    }

    /** Only some pairs are GAP apart: 0 with all others, and 3 with 4. */
    private static void leastGoesBack() {
        Supplier<OnlyTwo> made = () -> Edges.put(Edges.put(Edges.with(Edges.p(1, 1, 1, 0), Edges.p(40, 1, 2, 0),
            Edges.p(41, 1, 3, 0), Edges.p(30, 1, 5, 0), Edges.p(50, 1, 7, 0)), 0, 20), 3, 240);
        e.leaves("they go back by day", made, x -> x.least(6, 0), 4);
        e.leaves("they go back for the least HIRE", made, x -> x.least(6, 1), 25);
        int[] due = {3, 64 + 24, 128 + 9, 192 + 5, -5};
        for (int i = 0; i < due.length; i++) {
            int n = i;
            e.leaves("they go back, CROSSING " + n, made, x -> x.row(6, n), due[n]);
        }
        Supplier<OnlyTwo> three = () -> Edges.put(Edges.with(Edges.p(10, 1, 0, 0), Edges.p(20, 1, 0, 0), Edges.p(21, 1, 0, 0)), 3, 240);
        e.leaves("two cross from one SIDE alone", three, x -> x.least(6, 0), OnlyTwo.NONE);
        e.leaves("all cross and nobody goes back by day", three, x -> x.least(7, 0), OnlyTwo.NONE);
    }

    private static void leastAnew() {
        Supplier<OnlyTwo> made = () -> {
            OnlyTwo x = Edges.porters(2);
            x.least(3, 0);
            return x;
        };
        e.taken("behind put", made, x -> Edges.last(x.put(3, 0), x.least(3, 0)), 2);
        e.taken("behind porter", made, x -> Edges.last(x.porter(60, 1, 0, 0), x.least(1, 1)), 0);
        e.taken("behind a refused put", () -> Edges.put(made.get(), 3, 241), x -> x.least(3, 0), 1);
        e.taken("of another BAND between", made, x -> Edges.last(x.least(1, 0), x.least(3, 1)), 1);
        e.taken("behind from", () -> {
            OnlyTwo x = made.get();
            x.image(0);
            x.put(3, 0);
            x.least(3, 0);
            return x;
        }, x -> x.from(0) + x.least(3, 0), 2);
        e.taken("LOADS do not count", made, x -> Edges.last(x.load(5), x.least(3, 0)), 1);
        e.taken("gos do not count", () -> Checks.dayOf("porter 1 1 0 0;porter 9 1 0 0;go 0 0 1;"), x -> x.least(3, 0), 1);
    }

    private static void rowRanges() {
        e.promise(12, "row");
        for (int count = 0; count <= 6; count++) {
            int n = count;
            e.range("a BAND of " + n, () -> Edges.porters(n), (x, v) -> x.row(v, 0), 0, (1 << n) - 1, -10);
        }
        e.range("CROSSING i (0 on)", Edges::some, (x, v) -> x.row(7, v), 0, Integer.MAX_VALUE, -10);
        e.range("CROSSING i (0 on) of no PORTERS", Edges::none, (x, v) -> x.row(0, v), 0, Integer.MAX_VALUE, -10);
        e.refused("both wrong is refused once", Edges::some, x -> x.row(8, -1), -10, Edges.BAD);
        Supplier<OnlyTwo> night = () -> Edges.put(Edges.porters(3), 3, 0);
        int[] due = {1, 64 + 2, 128 + 4, -5};
        for (int i = 0; i < due.length; i++) {
            int n = i;
            e.leaves("CROSSING " + i + " of three", night, x -> x.row(7, n), due[n]);
        }
        e.leaves("-5: not so many, far off", night, x -> x.row(7, Integer.MAX_VALUE), -5);
        e.leaves("-5: not so many, an empty BAND", night, x -> x.row(0, 0), -5);
        e.leaves("-5: none", () -> Edges.with(Edges.p(1, 1, 0, 3)), x -> x.row(1, 0), -5);
        e.leaves("-5: none, behind a row that was", () -> {
            OnlyTwo x = Edges.with(Edges.p(1, 1, 0, 4), Edges.p(9, 1, 0, 0));
            x.row(3, 0);
            x.put(3, 0);
            return x;
        }, x -> x.row(3, 0), -5);
        e.leaves("the last minute", () -> Edges.put(Edges.with(Edges.p(1, 1, 0, 0)), 3, 239), x -> x.row(1, 0), 239 * 64 + 1);
        e.leaves("the sixth PORTER", () -> Edges.put(Edges.porters(6), 3, 0), x -> x.row(32, 0), 32);
        e.leaves("all bits of a pair", () -> Edges.porters(6), x -> x.row(48, 0), 48);
    }

    private static void rowFirst() {
        Supplier<OnlyTwo> made = () -> Edges.with(Edges.p(10, 1, 0, 0), Edges.p(20, 1, 0, 0), Edges.p(30, 1, 0, 0), Edges.p(40, 1, 0, 0));
        e.leaves("the least bits", made, x -> x.row(8, 0), 9);
        e.leaves("the least bits of all first", made, x -> x.row(15, 0), 3);
        e.leaves("then the others", made, x -> x.row(15, 1), 64 + 12);
        Supplier<OnlyTwo> dear = () -> Edges.with(Edges.p(10, 1, 1, 0), Edges.p(20, 1, 0, 0), Edges.p(30, 1, 0, 0), Edges.p(40, 1, 0, 0));
        e.leaves("the least bits of those for the least HIRE", dear, x -> x.row(8, 0), 10);
        Supplier<OnlyTwo> wait = () -> Edges.put(Edges.with(Edges.p(10, 1, 1, 0), Edges.p(20, 1, 0, 0), Edges.p(20, 1, 0, 0)), 3, 3);
        e.leaves("the sooner, where both are as good", wait, x -> x.row(7, 0), 3);
        e.leaves("else none: it waits", wait, x -> x.row(7, 1), 192 + 4);
        Supplier<OnlyTwo> both = () -> Edges.put(Edges.with(Edges.p(10, 2, 0, 0), Edges.p(20, 1, 0, 0)), 3, 0);
        e.leaves("it is free as the one ahead ends", both, x -> x.row(3, 1), 2 * 64 + 2);
    }

    /** Two that go over and back for nothing until the last minute: as many CROSSINGS as there are minutes. */
    private static void rowOfEveryMinute() {
        Supplier<OnlyTwo> made = () -> Edges.put(Edges.put(
            Edges.with(Edges.p(1, 1, 0, 0), Edges.p(21, 1, 0, 0), Edges.p(11, 1, 0, 0)), 0, 20), 3, 239);
        e.leaves("240 CROSSINGS", made, x -> x.least(4, 2), 240);
        e.leaves("240 CROSSINGS in 240 minutes", made, x -> x.least(4, 0), 240);
        e.leaves("240 CROSSINGS for nothing", made, x -> x.least(4, 1), 0);
        e.leaves("the first of 240", made, x -> x.row(4, 0), 3);
        e.leaves("the last but one of 240", made, x -> x.row(4, 238), 238 * 64 + 3);
        e.leaves("the last of 240", made, x -> x.row(4, 239), 239 * 64 + 4);
        e.leaves("behind the last of 240", made, x -> x.row(4, 240), -5);
        e.leaves("behind the last of 240", made, x -> x.row(4, 241), -5);
    }

    private static void worthRanges() {
        e.promise(13, "worth");
        for (int count = 1; count <= 6; count++) {
            int n = count;
            e.range("a PORTER of " + n, () -> Edges.porters(n), (x, v) -> x.worth(0, v), 0, n - 1, -1000);
            // The last is none of the BAND, so the most BAND is all but it.
            int most = (1 << n - 1) - 1;
            Supplier<OnlyTwo> made = () -> Edges.put(Edges.porters(n), 3, 0);
            e.range("a BAND of " + n + " without the last", made, (x, v) -> x.worth(v, n - 1), 0, most, -1000);
            e.refused("a BAND beyond " + n, made, x -> x.worth(1 << n, 0), -1000, Edges.BAD);
            for (int p = 0; p < n; p++) {
                int who = p;
                e.refused("it is one of the BAND, too", made, x -> x.worth(1 << who, who), -1000, Edges.BAD);
                e.refused("it is one of all", made, x -> x.worth((1 << n) - 1, who), -1000, Edges.BAD);
            }
        }
        e.refused("no PORTERS", Edges::none, x -> x.worth(0, 0), -1000, Edges.BAD);
        e.refused("a PORTER that a shift would wrap", Edges::full, x -> x.worth(0, 32), -1000, Edges.BAD);
        e.refused("a PORTER that a shift would wrap", Edges::full, x -> x.worth(1, 33), -1000, Edges.BAD);
    }

    private static void worthNone() {
        Supplier<OnlyTwo> tied = () -> Edges.with(Edges.p(10, 1, 5, 0), Edges.p(20, 1, 5, 3), Edges.p(30, 1, 5, 0), Edges.p(40, 1, 5, 3));
        e.refused("NO: none without it", tied, x -> x.worth(2, 0), -2000, Edges.NO);
        e.leaves("not NO: without another", tied, x -> x.worth(2, 2), 0);
        Supplier<OnlyTwo> never = () -> Edges.with(Edges.p(10, 1, 5, 3), Edges.p(20, 1, 5, 0));
        e.refused("NO: either is none", never, x -> x.worth(1, 1), -2000, Edges.NO);
        e.refused("BAD ahead of NO", never, x -> x.worth(1, 0), -1000, Edges.BAD);
        Supplier<OnlyTwo> late = () -> Edges.put(Edges.with(Edges.p(10, 30, 5, 1), Edges.p(20, 1, 5, 0)), 3, 181);
        e.refused("NO: not by minute 240 without it", late, x -> x.worth(1, 1), -2000, Edges.NO);
        e.leaves("by minute 240 without it", () -> Edges.put(late.get(), 3, 180), x -> x.worth(1, 1), 5 - 10);
    }

    private static void worthValues() {
        e.leaves("an empty BAND: 0", Edges::full, x -> x.worth(0, 5), 0);
        Supplier<OnlyTwo> made = () -> Edges.with(Edges.p(10, 2, 1, 0), Edges.p(20, 2, 3, 0), Edges.p(30, 2, 99, 0), Edges.p(40, 1, 0, 3));
        e.leaves("more HIRE without it", made, x -> x.worth(1, 1), 96);
        e.leaves("as much HIRE without it", made, x -> x.worth(1, 2), 0);
        Supplier<OnlyTwo> fast = () -> Edges.with(Edges.p(10, 1, 0, 0), Edges.p(20, 1, 99, 0), Edges.p(30, 2, 0, 0));
        e.leaves("less HIRE without it, by more minutes", fast, x -> x.worth(1, 1), -99);
        e.taken("LEAST is of all behind it", fast, x -> Edges.last(x.worth(1, 1), x.least(1, 1)), 99);
        e.taken("numbers stay as they are, if one lacks", () -> Edges.with(Edges.p(10, 1, 1, 0), Edges.p(20, 1, 1, 0),
            Edges.p(30, 1, 1, 0), Edges.p(40, 1, 1, 3)), x -> x.worth(8, 1), 0);
    }

    private static void turnsRanges() {
        e.promise(14, "turns");
        for (int count = 0; count <= 6; count++) {
            int n = count;
            e.range("BAND A of " + n, () -> Edges.porters(n), (x, v) -> x.turns(v, 0), 0, (1 << n) - 1, -2);
            e.range("BAND B of " + n, () -> Edges.porters(n), (x, v) -> x.turns(0, v), 0, (1 << n) - 1, -2);
        }
        for (int p = 0; p < 6; p++) {
            int one = 1 << p;
            e.refused("BANDS that have one alike, " + p, Edges::full, x -> x.turns(one, one), OnlyTwo.BAD, Edges.BAD);
            e.refused("all, and one of them, " + p, Edges::full, x -> x.turns(63, one), OnlyTwo.BAD, Edges.BAD);
            e.leaves("all but one, and that one, " + p, Edges::full, x -> x.turns(63 - one, one), 0);
        }
    }

    private static void turnsAtOnce() {
        e.leaves("both are empty: A", Edges::none, x -> x.turns(0, 0), 1);
        e.leaves("A is empty", () -> Edges.porters(2), x -> x.turns(0, 3), 1);
        e.leaves("B is empty, though A is over in one turn", () -> Edges.porters(2), x -> x.turns(3, 0), 2);
        e.leaves("A is empty, B can not", () -> Edges.porters(1), x -> x.turns(0, 1), 1);
        e.leaves("B is empty, A can not", () -> Edges.porters(1), x -> x.turns(1, 0), 2);
    }

    private static void turnsOrder() {
        Supplier<OnlyTwo> six = () -> Edges.porters(6);
        e.leaves("one turn each: A is first", six, x -> x.turns(3, 12), 1);
        e.leaves("one turn each: A is first", six, x -> x.turns(12, 3), 1);
        e.leaves("A needs two turns, B one", six, x -> x.turns(15, 48), 2);
        e.leaves("A needs one turn, B two", six, x -> x.turns(48, 15), 1);
        e.leaves("neither can: one each", six, x -> x.turns(1, 2), 0);
        e.leaves("neither can: three each", six, x -> x.turns(7, 56), 0);
        e.leaves("A can not, B can", six, x -> x.turns(7, 24), 2);
        e.leaves("A can, B can not", six, x -> x.turns(24, 7), 1);
        e.leaves("five can not", six, x -> x.turns(31, 32), 0);
        e.leaves("four can in two turns, B can not", six, x -> x.turns(15, 16), 1);
        e.leaves("four can in two turns, A can not", six, x -> x.turns(16, 15), 2);
        Supplier<OnlyTwo> star = () -> Edges.with(Edges.p(10, 1, 0, 0), Edges.p(20, 1, 0, 0), Edges.p(20, 1, 0, 0), Edges.p(20, 1, 0, 0), Edges.p(20, 1, 0, 0));
        e.leaves("two cross from one SIDE alone", star, x -> x.turns(15, 16), 0);
        for (int a = 0; a < 6; a++) {
            for (int b = a + 1; b < 6; b++) {
                int pair = 1 << a | 1 << b;
                e.leaves("any two of its own, " + pair, six, x -> x.turns(pair, 63 - pair), 1);
                e.leaves("any two of its own, B, " + pair, six, x -> x.turns(63 - pair, pair), 2);
            }
        }
    }

    private static void turnsMay() {
        Supplier<OnlyTwo> alike = () -> Edges.with(Edges.p(10, 30, 0, 2), Edges.p(10, 30, 0, 0), Edges.p(12, 30, 0, 4), Edges.p(10, 30, 0, 5));
        e.leaves("not unlike", alike, x -> x.turns(3, 0), 2);
        e.leaves("not unlike, B neither", alike, x -> x.turns(3, 4), 0);
        e.leaves("GAP 0", () -> Edges.put(alike.get(), 0, 0), x -> x.turns(3, 4), 1);
        e.leaves("in minute 0: EVENING 0", () -> Edges.put(alike.get(), 1, 0), x -> x.turns(3, 4), 1);
        e.leaves("in minute 0: EVENING 1", () -> Edges.put(alike.get(), 1, 1), x -> x.turns(3, 4), 0);
        e.leaves("by day, NIGHT 0: two", () -> Edges.put(alike.get(), 3, 0), x -> x.turns(6, 1), 1);
        e.leaves("by day, NIGHT 0: not one", () -> Edges.put(alike.get(), 3, 0), x -> x.turns(1, 2), 0);
        e.leaves("by day, NIGHT 0: AFRAID goes", () -> Edges.put(alike.get(), 3, 0), x -> x.turns(6, 9), 1);
        e.leaves("a GUIDE", alike, x -> x.turns(10, 5), 1);
        Supplier<OnlyTwo> tied = () -> Edges.with(Edges.p(10, 1, 0, 0), Edges.p(20, 1, 0, 3), Edges.p(30, 1, 0, 3), Edges.p(40, 1, 0, 0));
        e.leaves("TIED with the one less", tied, x -> x.turns(3, 12), 1);
        e.leaves("TIED with another", tied, x -> x.turns(10, 5), 0);
        e.leaves("TIED, B", tied, x -> x.turns(12, 3), 2);
    }
}
