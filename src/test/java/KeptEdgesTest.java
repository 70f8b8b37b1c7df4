import java.math.BigInteger;
import java.util.ArrayList;
import java.util.List;
import java.util.function.Supplier;
import java.util.function.ToLongFunction;

/** Promises 20 to 24: every sentence that names a boundary of images, STATUS, counts and the digest. */
public final class KeptEdgesTest {
    private static final Edges e = new Edges();
    private static final List<Supplier<OnlyTwo>> STATES = List.of(Edges::none, Edges::some, Edges::full);

    public static void main(String[] args) {
        image();
        imageKeepsAll();
        from();
        fromGoesOn();
        status();
        statusOfEachRefusal();
        statusOfNoRefusal();
        count();
        digestOfStates();
        digestOrder();
        digestWrapsAround();
        lastCall();
        e.finish();
    }

    private static void image() {
        e.promise(20, "image");
        for (Supplier<OnlyTwo> made : STATES) {
            e.range("IMAGES are 0, 1", made, (x, v) -> x.image(v), 0, 1, -2);
        }
        e.taken("IMAGE 0 is kept", Edges::none, x -> x.image(0), 1);
        e.taken("IMAGE 1 is kept", Edges::none, x -> x.image(1), 1);
        e.taken("an IMAGE is kept anew", Edges::full, x -> x.image(1), 1);
        e.taken("nothing else changes", Edges::full, x -> x.digest() - (Edges.last(x.image(0), x.digest())), 0);
        e.taken("one IMAGE is not the other", () -> {
            OnlyTwo x = Edges.porters(2);
            x.image(0);
            x.porter(9, 9, 9, 0);
            x.image(1);
            return x;
        }, x -> Edges.last(x.from(0), x.count(0)) + 10 * Edges.last(x.from(1), x.count(0)), 2 + 30);
    }

    /** Every part of what there is, one by one, changed behind the IMAGE. */
    private static void imageKeepsAll() {
        List<ToLongFunction<OnlyTwo>> changes = List.of(x -> x.porter(9, 9, 9, 0), x -> x.put(0, 9), x -> x.put(1, 9),
            x -> x.put(2, 9), x -> x.put(3, 9), x -> x.type(7, 1), OnlyTwo::clear, x -> x.clear() + x.read(), x -> x.load(9), OnlyTwo::unload);
        for (ToLongFunction<OnlyTwo> change : changes) {
            for (int i = 0; i < 2; i++) {
                int n = i;
                OnlyTwo x = Edges.some();
                long before = x.digest();
                x.image(n);
                change.applyAsLong(x);
                e.due("the change is one", x.digest() == before ? 1 : 0, 0);
                e.taken("an IMAGE keeps all", () -> x, y -> y.from(n), 1);
                e.due("an IMAGE keeps all", x.digest(), before);
            }
        }
        for (Supplier<OnlyTwo> made : STATES) {
            OnlyTwo x = made.get();
            long before = x.digest();
            x.image(0);
            x.clear();
            x.unload();
            Checks.typeAll(x, "porter 1 1 1 1;gap 9;go 7 0;");
            x.read();
            x.load(9);
            e.due("from an IMAGE of all", x.from(0), 1);
            e.due("from an IMAGE of all", x.digest(), before);
        }
    }

    private static void from() {
        e.promise(21, "from");
        e.range("IMAGES are 0, 1", Edges::full, (x, v) -> x.from(v), 0, 1, -2);
        e.refused("NO: none was kept, 0", Edges::none, x -> x.from(0), OnlyTwo.NO, Edges.NO);
        e.refused("NO: none was kept, 1", Edges::none, x -> x.from(1), OnlyTwo.NO, Edges.NO);
        e.refused("NO: none was kept, but the other", Edges::some, x -> x.from(0), OnlyTwo.NO, Edges.NO);
        e.taken("the other", Edges::some, x -> x.from(1), 1);
        e.refused("BAD, not NO, -1", Edges::none, x -> x.from(-1), OnlyTwo.BAD, Edges.BAD);
        e.refused("BAD, not NO, 2", Edges::none, x -> x.from(2), OnlyTwo.BAD, Edges.BAD);
        e.refused("a refused image keeps none", () -> {
            OnlyTwo x = Edges.none();
            x.image(2);
            return x;
        }, x -> x.from(1), OnlyTwo.NO, Edges.NO);
        e.taken("an IMAGE of nothing at all", () -> {
            OnlyTwo x = Edges.none();
            x.image(0);
            x.porter(9, 9, 9, 0);
            return x;
        }, x -> x.from(0) + 10 * x.count(0), 1);
    }

    private static void fromGoesOn() {
        OnlyTwo x = Edges.full();
        x.from(1);
        long bad = x.status(0);
        x.count(9);
        x.from(1);
        e.due("IMAGES do not keep STATUS", x.status(0), bad + 1);
        e.due("twice from one", x.count(0), 1);
        x.from(0);
        e.due("IMAGES do not keep IMAGES", x.count(0), 3);
        long kept = x.digest();
        x.load(9);
        x.put(0, 1);
        x.porter(9, 9, 9, 0);
        e.due("what goes on does not change the IMAGE", x.from(0), 1);
        e.due("what goes on does not change the IMAGE", x.digest(), kept);
        x.image(1);
        x.unload();
        x.from(1);
        e.due("an IMAGE from an IMAGE", x.digest(), kept);
        OnlyTwo y = Edges.porters(2);
        y.image(0);
        y.porter(60, 1, 0, 0);
        y.least(1, 1);
        y.from(0);
        e.due("LEAST is found anew", y.least(1, 1), 1);
    }

    private static void status() {
        e.promise(22, "status");
        for (Supplier<OnlyTwo> made : STATES) {
            e.range("BAD (0), NO (1), FULL (2); -1: another what (counts as BAD)", made, (x, v) -> x.status(v), 0, 2, -1);
        }
        OnlyTwo x = Edges.none();
        for (int i = 1; i <= 100; i++) {
            e.due("-1", x.status(3), -1);
            e.due("each counts", x.status(0), i);
        }
        e.due("NO stays", x.status(1), 0);
        e.due("FULL stays", x.status(2), 0);
    }

    /** Every call that can be refused, by every reason: it counts once, and by no other reason. */
    private static void statusOfEachRefusal() {
        List<ToLongFunction<OnlyTwo>> bad = List.of(x -> x.porter(0, 1, 0, 0), x -> x.put(4, 0), x -> x.of(6, 0, 0), x -> x.why(0, 0),
            x -> x.type(0, 0), x -> x.least(64, 0), x -> x.turns(1, 1), x -> x.load(0), x -> x.ropes(0), x -> x.image(2),
            x -> x.from(2), x -> x.count(4));
        for (ToLongFunction<OnlyTwo> call : bad) {
            e.refused("BAD -2", Edges::full, call, -2, Edges.BAD);
        }
        List<ToLongFunction<OnlyTwo>> others = List.of(x -> x.row(64, 0), x -> x.carries(5), x -> x.fell(64, 0, 0));
        for (ToLongFunction<OnlyTwo> call : others) {
            e.refused("others count as these: -10 is BAD", Edges::full, call, -10, Edges.BAD);
        }
        e.refused("others count as these: -1000 is BAD", Edges::full, x -> x.worth(1, 0), -1000, Edges.BAD);
        e.refused("others count as these: -2000 is NO", () -> Edges.with(Edges.p(1, 1, 1, 3), Edges.p(9, 1, 1, 0)), x -> x.worth(1, 1), -2000, Edges.NO);
        e.refused("another what is BAD", Edges::full, x -> x.status(3), -1, Edges.BAD);
        e.refused("NO -3", Edges::some, x -> x.from(0), -3, Edges.NO);
        e.refused("FULL -4, porter", Edges::full, x -> x.porter(1, 1, 0, 0), -4, Edges.FULL);
        e.refused("FULL -4, type", Edges::full, x -> x.type(0, 1), -4, Edges.FULL);
        e.refused("FULL -4, load", Edges::full, x -> x.load(1), -4, Edges.FULL);
    }

    private static void statusOfNoRefusal() {
        e.leaves("-5 is not refused, row", Edges::full, x -> x.row(0, 0), -5);
        e.leaves("-5 is not refused, fell", Edges::none, x -> x.fell(0, 0, 0), -5);
        e.leaves("NONE is not refused, least", () -> Edges.with(Edges.p(1, 1, 1, 3)), x -> x.least(1, 0), -1);
        e.leaves("NONE is not refused, judged", Edges::none, OnlyTwo::judged, -1);
        e.leaves("NONE is not refused, carries", () -> {
            OnlyTwo x = Edges.none();
            x.load(1);
            return x;
        }, x -> x.carries(0), -1);
        e.leaves("NONE is not refused, ropes", Edges::none, x -> x.ropes(1), -1);
        e.leaves("a FAULT at 0 is not refused", () -> {
            OnlyTwo x = Edges.none();
            x.type('x', 1);
            return x;
        }, OnlyTwo::read, -10);
    }

    private static void count() {
        e.promise(23, "count");
        for (Supplier<OnlyTwo> made : STATES) {
            e.range("0 PORTERS, 1 gos, 2 bytes, 3 LOADS", made, (x, v) -> x.count(v), 0, 3, -2);
        }
        int[][] due = {{0, 0, 0, 0}, {3, 3, 110, 2}, {6, 20, 200, 5}};
        for (int state = 0; state < 3; state++) {
            for (int what = 0; what < 4; what++) {
                int n = what;
                e.leaves("how many, " + n, STATES.get(state), x -> x.count(n), due[state][n]);
            }
        }
        e.taken("a refused porter is not counted", Edges::full, x -> x.count(0), 6);
    }

    /** The digest by whole numbers that do not wrap, and then what of it a long has. */
    private static long digestOf(List<Integer> values) {
        BigInteger h = BigInteger.valueOf(631);
        for (int v : values) {
            h = h.multiply(BigInteger.valueOf(31)).add(BigInteger.valueOf(v));
        }
        return h.longValue();
    }

    private static void addBytes(List<Integer> values, String text) {
        for (char b : text.toCharArray()) {
            values.add((int) b);
        }
    }

    private static void digestOfStates() {
        e.promise(24, "digest");
        e.leaves("of a new object", Edges::none, OnlyTwo::digest, digestOf(List.of(0, 0, 0, 0, 2, 120, 3, 180)));
        List<Integer> some = new ArrayList<>(List.of(3, 3, 110, 2));
        some.addAll(List.of(10, 3, 1, 0, 14, 4, 2, 2, 12, 2, 0, 5));
        some.addAll(List.of(3, 100, 5, 200, 0, 3, 4, 3, 200, 2));
        addBytes(some, "porter 10 3 1 0;porter 14 4 2 2;porter 12 2 0 5;gap 3;evening 100;more 5;night 200;");
        addBytes(some, "go 0 0 1;go 4 0 1;go 200 1;");
        some.addAll(List.of(7, 2));
        e.leaves("of three PORTERS", Edges::some, OnlyTwo::digest, digestOf(some));
        List<Integer> full = new ArrayList<>(List.of(6, 20, 200, 5));
        full.addAll(List.of(9, 3, 1, 0, 9, 2, 1, 1, 9, 4, 0, 2, 9, 9, 9, 3, 9, 1, 5, 4, 9, 7, 3, 5));
        full.addAll(List.of(2, 120, 3, 180));
        StringBuilder text = new StringBuilder("porter9 3 1 0;porter9 2 1 1;porter9 4 0 2;porter9 9 9 3;porter9 1 5 4;");
        for (int i = 0; i < 20; i++) {
            full.addAll(List.of(9, 1 << i % 5));
            text.append("go9 ").append(i % 5).append(';');
        }
        addBytes(full, text + " ".repeat(10));
        full.addAll(List.of(7, 2, 2, 3, 4));
        e.leaves("of all that there can be", Edges::full, OnlyTwo::digest, digestOf(full));
    }

    private static void digestOrder() {
        e.leaves("TIME as told, not twice", () -> Edges.with(Edges.p(60, 30, 99, 1)), OnlyTwo::digest,
            digestOf(List.of(1, 0, 0, 0, 60, 30, 99, 1, 2, 120, 3, 180)));
        e.leaves("WEIGHT as told, EVENING 0", () -> Edges.put(Edges.with(Edges.p(60, 30, 0, 2)), 1, 0), OnlyTwo::digest,
            digestOf(List.of(1, 0, 0, 0, 60, 30, 0, 2, 2, 0, 3, 180)));
        e.leaves("NUMBERS at their most", () -> Edges.put(Edges.put(Edges.put(Edges.put(Edges.none(), 0, 20), 1, 239), 2, 20), 3, 240),
            OnlyTwo::digest, digestOf(List.of(0, 0, 0, 0, 20, 239, 20, 240)));
        e.leaves("LOADS as they came", () -> {
            OnlyTwo x = Edges.none();
            x.load(20);
            x.load(1);
            return x;
        }, OnlyTwo::digest, digestOf(List.of(0, 0, 0, 2, 2, 120, 3, 180, 20, 1)));
        e.taken("STATUS and IMAGES are not in it", Edges::none, x -> Edges.last(x.image(0), x.digest()), digestOf(List.of(0, 0, 0, 0, 2, 120, 3, 180)));
        e.taken("cleared bytes are not in it", Edges::none, x -> Edges.last(x.type(-1, 8), x.clear(), x.digest()),
            digestOf(List.of(0, 0, 0, 0, 2, 120, 3, 180)));
    }

    private static void digestWrapsAround() {
        for (int b = 0; b < 256; b++) {
            List<Integer> values = new ArrayList<>(List.of(0, 0, 200, 0, 2, 120, 3, 180));
            OnlyTwo x = Edges.none();
            for (int i = 0; i < 200; i++) {
                values.add(b);
                x.type(b, 1);
            }
            e.due("200 bytes of " + b + " wrap around", x.digest(), digestOf(values));
        }
    }

    /** An object is used for at most 512 calls; the last of them answers as the first. */
    private static void lastCall() {
        OnlyTwo x = Edges.none();
        for (int call = 1; call < 511; call++) {
            e.due("call " + call, x.digest(), digestOf(List.of(0, 0, 0, 0, 2, 120, 3, 180)));
        }
        e.due("call 511", x.porter(9, 9, 9, 0), 0);
        e.due("call 512", x.digest(), digestOf(List.of(1, 0, 0, 0, 9, 9, 9, 0, 2, 120, 3, 180)));
    }
}
