import java.util.List;
import java.util.function.Supplier;

/** Promises 1 to 5: every sentence that names a boundary of porters, numbers, kinds and crossings. */
public final class PorterEdgesTest {
    private static final Edges e = new Edges();
    private static final int[] HIGHEST = {20, 239, 20, 240};
    private static final int[] FIRST = {2, 120, 3, 180};

    public static void main(String[] args) {
        newObject();
        porterRanges();
        porterNumbers();
        putRanges();
        putAnswers();
        ofRanges();
        ofKinds();
        ofEvening();
        whyRanges();
        whyCountsByHour();
        whyNeverSo();
        whyUnlike();
        whyEnd();
        whyOrder();
        e.finish();
    }

    private static void newObject() {
        e.promise(1, "a new object");
        for (int what = 0; what < 4; what++) {
            int n = what;
            e.leaves("none of what count " + n + " tells", Edges::none, x -> x.count(n), 0);
            e.taken("NUMBER " + n + " as at first", Edges::none, x -> x.put(n, 0), FIRST[n]);
        }
        for (int what = 0; what < 3; what++) {
            int n = what;
            e.leaves("nothing was refused, " + n, Edges::none, x -> x.status(n), 0);
        }
        for (int i = 0; i < 2; i++) {
            int n = i;
            e.refused("no IMAGE " + n, Edges::none, x -> x.from(n), OnlyTwo.NO, Edges.NO);
        }
        e.leaves("no PORTERS: nobody at SIDE 1", Edges::none, OnlyTwo::there, 0);
        e.leaves("no gos: none that can not be", Edges::none, OnlyTwo::judged, OnlyTwo.NONE);
        e.leaves("an empty text reads", Edges::none, OnlyTwo::read, 0);
        e.leaves("no LOADS", Edges::none, OnlyTwo::unload, 0);
        e.leaves("no bytes", Edges::none, OnlyTwo::clear, 0);
        e.due("NONE", OnlyTwo.NONE, -1);
        e.due("BAD", OnlyTwo.BAD, -2);
        e.due("NO", OnlyTwo.NO, -3);
        e.due("FULL", OnlyTwo.FULL, -4);
    }

    private static void porterRanges() {
        e.promise(2, "porter");
        for (Supplier<OnlyTwo> made : List.<Supplier<OnlyTwo>>of(Edges::none, Edges::some)) {
            e.range("WEIGHT is 1 .. 60", made, (x, v) -> x.porter(v, 1, 0, 0), 1, 60, -2);
            e.range("TIME is 1 .. 30", made, (x, v) -> x.porter(1, v, 0, 0), 1, 30, -2);
            e.range("HIRE is 0 .. 99", made, (x, v) -> x.porter(1, 1, v, 0), 0, 99, -2);
            e.range("KIND is 0 .. 5", made, (x, v) -> x.porter(1, 1, 0, v), 0, 5, -2);
        }
        e.taken("the least of all", Edges::some, x -> x.porter(1, 1, 0, 0), 3);
        e.taken("the most of all", Edges::some, x -> x.porter(60, 30, 99, 5), 3);
        e.taken("the least WEIGHT is kept", Edges::none, x -> x.porter(1, 30, 0, 0) + x.of(0, 0, 0), 1);
        e.taken("the most WEIGHT is kept", Edges::none, x -> x.porter(60, 30, 0, 0) + x.of(0, 0, 0), 60);
        e.taken("the least TIME is kept", Edges::none, x -> x.porter(1, 1, 0, 0) + x.of(0, 0, 1), 1);
        e.taken("the most TIME is kept", Edges::none, x -> x.porter(1, 30, 0, 0) + x.of(0, 0, 1), 30);
    }

    private static void porterNumbers() {
        for (int count = 0; count < 6; count++) {
            int n = count;
            e.taken("PORTERS 0 .. 5, as they come: " + n, () -> Edges.porters(n), x -> x.porter(7, 7, 7, 0), n);
        }
        e.refused("FULL: 6", () -> Edges.porters(6), x -> x.porter(7, 7, 7, 0), OnlyTwo.FULL, Edges.FULL);
        e.refused("FULL: the least", Edges::full, x -> x.porter(1, 1, 0, 0), OnlyTwo.FULL, Edges.FULL);
        e.refused("FULL: the most", Edges::full, x -> x.porter(60, 30, 99, 5), OnlyTwo.FULL, Edges.FULL);
        e.refused("BAD ahead of FULL, WEIGHT", Edges::full, x -> x.porter(61, 1, 0, 0), OnlyTwo.BAD, Edges.BAD);
        e.refused("BAD ahead of FULL, TIME", Edges::full, x -> x.porter(1, 31, 0, 0), OnlyTwo.BAD, Edges.BAD);
        e.refused("BAD ahead of FULL, HIRE", Edges::full, x -> x.porter(1, 1, 100, 0), OnlyTwo.BAD, Edges.BAD);
        e.refused("BAD ahead of FULL, KIND", Edges::full, x -> x.porter(1, 1, 0, 6), OnlyTwo.BAD, Edges.BAD);
        e.refused("all four wrong is refused once", Edges::some, x -> x.porter(0, 0, -1, -1), OnlyTwo.BAD, Edges.BAD);
        e.taken("not FULL any more, if an image has fewer", Edges::full, x -> x.from(0) + x.porter(7, 7, 7, 0), 1 + 3);
    }

    private static void putRanges() {
        e.promise(3, "put");
        for (Supplier<OnlyTwo> made : List.<Supplier<OnlyTwo>>of(Edges::none, Edges::some, Edges::full)) {
            e.range("GAP is 0 .. 20", made, (x, v) -> x.put(0, v), 0, 20, -2);
            e.range("EVENING is 0 .. 239", made, (x, v) -> x.put(1, v), 0, 239, -2);
            e.range("MORE is 0 .. 20", made, (x, v) -> x.put(2, v), 0, 20, -2);
            e.range("NIGHT is 0 .. 240", made, (x, v) -> x.put(3, v), 0, 240, -2);
            e.range("NUMBERS are 0 .. 3", made, (x, v) -> x.put(v, 0), 0, 3, -2);
        }
        e.refused("both wrong is refused once", Edges::some, x -> x.put(4, -1), OnlyTwo.BAD, Edges.BAD);
    }

    private static void putAnswers() {
        for (int what = 0; what < 4; what++) {
            int n = what;
            e.taken("the most is what it was", () -> Edges.put(Edges.some(), n, HIGHEST[n]), x -> x.put(n, 0), HIGHEST[n]);
            e.taken("the least is what it was", () -> Edges.put(Edges.some(), n, 0), x -> x.put(n, HIGHEST[n]), 0);
            e.taken("a refused one is not what it was", () -> Edges.put(Edges.none(), n, HIGHEST[n] + 1), x -> x.put(n, 1), FIRST[n]);
            int other = (n + 1) % 4;
            e.taken("another NUMBER stays", () -> Edges.put(Edges.none(), n, 1), x -> x.put(other, 0), FIRST[other]);
        }
    }

    private static void ofRanges() {
        e.promise(4, "of");
        for (int count = 1; count <= 6; count++) {
            int n = count;
            e.range("a PORTER of " + n, () -> Edges.porters(n), (x, v) -> x.of(v, 0, 0), 0, n - 1, -2);
        }
        e.refused("no PORTERS at all", Edges::none, x -> x.of(0, 0, 0), OnlyTwo.BAD, Edges.BAD);
        e.refused("no PORTERS at all", Edges::none, x -> x.of(-1, 0, 0), OnlyTwo.BAD, Edges.BAD);
        e.range("MINUTES are 0 .. 239, WEIGHT", Edges::some, (x, v) -> x.of(0, v, 0), 0, 239, -2);
        e.range("MINUTES are 0 .. 239, TIME", Edges::some, (x, v) -> x.of(0, v, 1), 0, 239, -2);
        e.range("WEIGHT (0), TIME (1)", Edges::full, (x, v) -> x.of(5, 239, v), 0, 1, -2);
        e.leaves("the first minute", Edges::some, x -> x.of(1, 0, 0), 14);
        e.leaves("the last minute", Edges::some, x -> x.of(1, 239, 0), 19);
        e.leaves("the first PORTER", Edges::some, x -> x.of(0, 0, 0), 10);
        e.leaves("the last PORTER", Edges::full, x -> x.of(5, 0, 1), 7);
        e.leaves("LOADS are not in it", Edges::full, x -> x.of(0, 0, 0), 9);
    }

    private static void ofKinds() {
        int[] timesOfOne = {1, 2, 1, 2, 1, 1};
        int[] timesOfThirty = {30, 60, 30, 60, 30, 30};
        int[] late = {60, 60, 80, 60, 80, 60};
        for (int kind = 0; kind < 6; kind++) {
            int k = kind;
            Supplier<OnlyTwo> least = () -> Edges.with(Edges.p(60, 1, 0, k));
            Supplier<OnlyTwo> most = () -> Edges.put(Edges.put(Edges.with(Edges.p(60, 30, 0, k)), 2, 20), 1, 239);
            e.leaves("TIME 1 of KIND " + k, least, x -> x.of(0, 0, 1), timesOfOne[k]);
            e.leaves("TIME 30 of KIND " + k, most, x -> x.of(0, 239, 1), timesOfThirty[k]);
            e.leaves("WEIGHT ahead of EVENING of KIND " + k, most, x -> x.of(0, 238, 0), 60);
            e.leaves("WEIGHT from EVENING on of KIND " + k, most, x -> x.of(0, 239, 0), late[k]);
            e.leaves("MORE 0 is no more, KIND " + k, () -> Edges.put(most.get(), 2, 0), x -> x.of(0, 239, 0), 60);
        }
    }

    private static void ofEvening() {
        Supplier<OnlyTwo> heavy = () -> Edges.with(Edges.p(10, 1, 0, 2), Edges.p(10, 1, 0, 4));
        for (int porter = 0; porter < 2; porter++) {
            int n = porter;
            e.leaves("the minute ahead of EVENING 120", heavy, x -> x.of(n, 119, 0), 10);
            e.leaves("EVENING 120 itself", heavy, x -> x.of(n, 120, 0), 13);
            e.leaves("EVENING 0 is from the first minute on", () -> Edges.put(heavy.get(), 1, 0), x -> x.of(n, 0, 0), 13);
            e.leaves("EVENING 1 is not in the first minute", () -> Edges.put(heavy.get(), 1, 1), x -> x.of(n, 0, 0), 10);
            e.leaves("EVENING goes on at night", heavy, x -> x.of(n, 239, 0), 13);
            e.leaves("NIGHT ahead of EVENING is no evening", () -> Edges.put(heavy.get(), 3, 0), x -> x.of(n, 119, 0), 10);
        }
    }

    private static void whyRanges() {
        e.promise(5, "why");
        for (int count = 1; count <= 6; count++) {
            int n = count;
            e.range("a set, one at least, of " + n, () -> Edges.porters(n), (x, v) -> x.why(v, 0), 1, (1 << n) - 1, -2);
        }
        e.refused("no PORTERS, no set", Edges::none, x -> x.why(1, 0), OnlyTwo.BAD, Edges.BAD);
        e.refused("no PORTERS, the empty set", Edges::none, x -> x.why(0, 0), OnlyTwo.BAD, Edges.BAD);
        e.range("MINUTES are 0 .. 239", Edges::some, (x, v) -> x.why(1, v), 0, 239, -2);
        e.refused("the empty set at night", Edges::full, x -> x.why(0, 239), OnlyTwo.BAD, Edges.BAD);
    }

    private static void whyCountsByHour() {
        for (int night : new int[] {1, 100, 180, 239}) {
            Supplier<OnlyTwo> made = () -> Edges.put(Edges.porters(6), 3, night);
            e.leaves("one ahead of NIGHT " + night, made, x -> x.why(1, night - 1), 3);
            e.leaves("two ahead of NIGHT " + night, made, x -> x.why(3, night - 1), 0);
            e.leaves("three ahead of NIGHT " + night, made, x -> x.why(7, night - 1), 3);
            e.leaves("one from NIGHT on " + night, made, x -> x.why(32, night), 0);
            e.leaves("two from NIGHT on " + night, made, x -> x.why(48, night), 3);
            e.leaves("all from NIGHT on " + night, made, x -> x.why(63, night), 3);
        }
        e.leaves("NIGHT 0: one in the first minute", () -> Edges.put(Edges.porters(2), 3, 0), x -> x.why(1, 0), 0);
        e.leaves("NIGHT 0: not two in the first minute", () -> Edges.put(Edges.porters(2), 3, 0), x -> x.why(3, 0), 3);
        e.leaves("NIGHT 240: not one in the last minute", () -> Edges.put(Edges.porters(2), 3, 240), x -> x.why(1, 239), 3);
        e.leaves("NIGHT 240: two in the last minute", () -> Edges.put(Edges.porters(2), 3, 240), x -> x.why(3, 239), 0);
        e.leaves("a GUIDE alone by day is one", () -> Edges.with(Edges.p(9, 1, 0, 5)), x -> x.why(1, 0), 3);
        e.leaves("all six by day are not two", () -> Edges.porters(6), x -> x.why(63, 0), 3);
    }

    private static void whyNeverSo() {
        Supplier<OnlyTwo> tied = () -> Edges.with(Edges.p(10, 1, 0, 3), Edges.p(20, 1, 0, 0), Edges.p(30, 1, 0, 3),
            Edges.p(40, 1, 0, 5), Edges.p(50, 1, 0, 3), Edges.p(60, 1, 0, 3));
        e.leaves("TIED 0: never, with the one more", tied, x -> x.why(3, 0), 4);
        e.leaves("TIED 0: never, with a GUIDE", tied, x -> x.why(9, 0), 4);
        e.leaves("TIED 0: never, at night", tied, x -> x.why(1, 180), 4);
        e.leaves("TIED with the PORTER one less", tied, x -> x.why(6, 0), 0);
        e.leaves("TIED with the PORTER one more", tied, x -> x.why(12, 0), 4);
        e.leaves("TIED with the PORTER two less", tied, x -> x.why(20, 0), 4);
        e.leaves("TIED with a GUIDE one less", tied, x -> x.why(24, 0), 0);
        e.leaves("TIED with one less that is TIED to another", tied, x -> x.why(48, 0), 4);
        e.leaves("TIED alone at night", tied, x -> x.why(4, 180), 4);
        e.leaves("TIED, the one less alone at night", tied, x -> x.why(2, 180), 0);
        e.leaves("TIED, both at night are two", tied, x -> x.why(6, 180), 3);
        Supplier<OnlyTwo> afraid = () -> Edges.with(Edges.p(10, 1, 0, 4), Edges.p(20, 1, 0, 0));
        e.leaves("AFRAID ahead of NIGHT", afraid, x -> x.why(3, 179), 0);
        e.leaves("AFRAID from NIGHT on", afraid, x -> x.why(1, 180), 4);
        e.leaves("AFRAID in the last minute", afraid, x -> x.why(1, 239), 4);
        e.leaves("AFRAID, NIGHT 0", () -> Edges.put(afraid.get(), 3, 0), x -> x.why(1, 0), 4);
        e.leaves("AFRAID, NIGHT 240", () -> Edges.put(afraid.get(), 3, 240), x -> x.why(3, 239), 0);
        e.leaves("HEAVY at night", () -> Edges.with(Edges.p(10, 1, 0, 2)), x -> x.why(1, 180), 0);
        e.leaves("LAME at night", () -> Edges.with(Edges.p(10, 1, 0, 1)), x -> x.why(1, 180), 0);
    }

    private static void whyUnlike() {
        for (int gap : new int[] {1, 2, 19, 20}) {
            Supplier<OnlyTwo> made = () -> Edges.put(Edges.with(Edges.p(30, 1, 0, 0), Edges.p(30 + gap, 1, 0, 0),
                Edges.p(31, 1, 0, 0), Edges.p(30 - gap, 1, 0, 1)), 0, gap);
            e.leaves("GAP " + gap + " apart, the lesser first", made, x -> x.why(3, 0), 0);
            e.leaves("GAP " + gap + " apart, the greater first", made, x -> x.why(9, 0), 0);
            e.leaves("GAP " + gap + ", one less", made, x -> x.why(6, 0), 5);
        }
        Supplier<OnlyTwo> alike = () -> Edges.with(Edges.p(7, 1, 0, 0), Edges.p(7, 1, 0, 0), Edges.p(7, 1, 0, 5), Edges.p(7, 1, 0, 5));
        e.leaves("GAP 0: alike may go", () -> Edges.put(alike.get(), 0, 0), x -> x.why(3, 0), 0);
        e.leaves("GAP 1: alike may not", () -> Edges.put(alike.get(), 0, 1), x -> x.why(3, 0), 5);
        e.leaves("GAP 20: one a GUIDE", () -> Edges.put(alike.get(), 0, 20), x -> x.why(5, 0), 0);
        e.leaves("GAP 20: two GUIDES", () -> Edges.put(alike.get(), 0, 20), x -> x.why(12, 0), 0);
        for (int guide = 0; guide < 6; guide++) {
            int g = guide;
            Supplier<OnlyTwo> six = () -> {
                OnlyTwo x = new OnlyTwo();
                for (int i = 0; i < 6; i++) {
                    x.porter(60, 1, 0, i == g ? 5 : 0);
                }
                return x;
            };
            int with = 1 << g | 1 << (g + 1) % 6;
            int without = 1 << (g + 1) % 6 | 1 << (g + 2) % 6;
            e.leaves("with GUIDE " + g, six, x -> x.why(with, 0), 0);
            e.leaves("without GUIDE " + g, six, x -> x.why(without, 0), 5);
        }
        e.leaves("the GUIDE must be on it", () -> Edges.put(alike.get(), 0, 20), x -> x.why(3, 0), 5);
        Supplier<OnlyTwo> heavy = () -> Edges.with(Edges.p(10, 1, 0, 2), Edges.p(11, 1, 0, 0), Edges.p(15, 1, 0, 0), Edges.p(10, 1, 0, 4));
        e.leaves("WEIGHTS in t: ahead of EVENING", heavy, x -> x.why(3, 119), 5);
        e.leaves("WEIGHTS in t: from EVENING on", heavy, x -> x.why(3, 120), 0);
        e.leaves("WEIGHTS in t: it ends by evening, but begins ahead of it", () -> Edges.put(heavy.get(), 1, 50), x -> x.why(3, 49), 5);
        e.leaves("WEIGHTS in t: from 5 apart to 2", heavy, x -> x.why(5, 120), 0);
        e.leaves("WEIGHTS in t: from 5 apart to 1", () -> Edges.put(heavy.get(), 2, 4), x -> x.why(5, 120), 5);
        e.leaves("WEIGHTS in t: both heavier", heavy, x -> x.why(9, 120), 5);
        e.leaves("at night one need not be unlike", () -> Edges.put(alike.get(), 0, 20), x -> x.why(1, 180), 0);
    }

    private static void whyEnd() {
        Supplier<OnlyTwo> made = () -> Edges.put(Edges.with(Edges.p(10, 1, 0, 0), Edges.p(20, 30, 0, 0), Edges.p(30, 30, 0, 1)), 3, 240);
        e.leaves("the greater TIME: 30 ends at 240", made, x -> x.why(3, 210), 0);
        e.leaves("the greater TIME: 30 ends at 241", made, x -> x.why(3, 211), 6);
        e.leaves("the greater TIME: 60 ends at 240", made, x -> x.why(6, 180), 0);
        e.leaves("the greater TIME: 60 ends at 241", made, x -> x.why(6, 181), 6);
        Supplier<OnlyTwo> night = () -> Edges.put(made.get(), 3, 0);
        e.leaves("at night 1 ends at 240", night, x -> x.why(1, 239), 0);
        e.leaves("at night 30 ends at 240", night, x -> x.why(2, 210), 0);
        e.leaves("at night 30 ends at 241", night, x -> x.why(2, 211), 6);
        e.leaves("at night 60 ends at 240", night, x -> x.why(4, 180), 0);
        e.leaves("at night 60 ends at 241", night, x -> x.why(4, 181), 6);
        Supplier<OnlyTwo> intoNight = () -> Edges.put(made.get(), 3, 200);
        e.leaves("it begins by day and ends at night", intoNight, x -> x.why(3, 199), 0);
    }

    private static void whyOrder() {
        Supplier<OnlyTwo> made = () -> Edges.with(Edges.p(10, 30, 0, 3), Edges.p(10, 30, 0, 0), Edges.p(10, 30, 0, 4), Edges.p(10, 30, 0, 0));
        Supplier<OnlyTwo> day = () -> Edges.put(made.get(), 3, 240);
        e.leaves("3 ahead of 4 and 6, by day", day, x -> x.why(1, 239), 3);
        e.leaves("3 ahead of 4, 5 and 6, by day", day, x -> x.why(7, 239), 3);
        e.leaves("4 ahead of 5 and 6", day, x -> x.why(3, 239), 4);
        e.leaves("5 ahead of 6", day, x -> x.why(10, 239), 5);
        e.leaves("6 at the last", () -> Edges.put(day.get(), 0, 0), x -> x.why(10, 239), 6);
        e.leaves("3 ahead of 4 and 6, at night", made, x -> x.why(6, 239), 3);
        e.leaves("4 ahead of 6, at night", made, x -> x.why(4, 239), 4);
        e.leaves("6 at the last, at night", made, x -> x.why(2, 239), 6);
    }
}
