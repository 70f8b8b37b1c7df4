import java.util.Arrays;
import java.util.function.Supplier;
import java.util.function.ToLongFunction;

/**
 * Both sides of a boundary. What is taken leaves STATUS as it is; what is refused leaves all but STATUS:
 * that is seen by a twin, made alike, on which the call was not made.
 */
final class Edges {
    static final int BAD = 0, NO = 1, FULL = 2;
    private static final String[] REASONS = {"BAD", "NO", "FULL"};
    private static final int NOT_REFUSED = -1;

    /** A call with one of its numbers left open. */
    interface CallWith {
        long on(OnlyTwo x, int v);
    }

    private final Checks c = new Checks();
    private String promise = "";

    void promise(int number, String name) {
        promise = "promise " + number + " " + name + ": ";
    }

    void due(String sentence, long got, long want) {
        c.due(promise + sentence, got, want);
    }

    void finish() {
        c.finish();
    }

    /** The answer is due, and STATUS stays. */
    void taken(String sentence, Supplier<OnlyTwo> made, ToLongFunction<OnlyTwo> call, long want) {
        OnlyTwo x = made.get();
        long[] before = statusOf(x);
        due(sentence, call.applyAsLong(x), want);
        dueStatus(sentence, x, before, NOT_REFUSED);
    }

    /** The answer is due, and all stays, STATUS too. */
    void leaves(String sentence, Supplier<OnlyTwo> made, ToLongFunction<OnlyTwo> call, long want) {
        unchangedBy(sentence, made, call, want, NOT_REFUSED);
    }

    /** The answer is due, STATUS tells one more of this reason, and all else stays. */
    void refused(String sentence, Supplier<OnlyTwo> made, ToLongFunction<OnlyTwo> call, long want, int reason) {
        unchangedBy(sentence, made, call, want, reason);
    }

    /** Both ends of a range are taken; the next ones outside and the farthest are refused as BAD. */
    void range(String sentence, Supplier<OnlyTwo> made, CallWith call, int lowest, int highest, long bad) {
        for (int v : new int[] {lowest, highest}) {
            OnlyTwo x = made.get();
            long[] before = statusOf(x);
            call.on(x, v);
            dueStatus(sentence + ", " + v + " is taken", x, before, NOT_REFUSED);
        }
        for (long v : new long[] {lowest - 1L, highest + 1L, Integer.MIN_VALUE, Integer.MAX_VALUE}) {
            boolean outside = v < lowest || v > highest;
            if (outside && v == (int) v) {
                refused(sentence + ", " + v + " is refused", made, x -> call.on(x, (int) v), bad, BAD);
            }
        }
    }

    private void unchangedBy(String sentence, Supplier<OnlyTwo> made, ToLongFunction<OnlyTwo> call, long want, int reason) {
        OnlyTwo x = made.get();
        OnlyTwo twin = made.get();
        long[] before = statusOf(x);
        due(sentence, call.applyAsLong(x), want);
        dueStatus(sentence, x, before, reason);
        c.holds(promise + sentence + ": all else stays", Arrays.equals(portraitOf(x), portraitOf(twin)));
    }

    private void dueStatus(String sentence, OnlyTwo x, long[] before, int reason) {
        for (int what = 0; what < 3; what++) {
            due(sentence + ": STATUS " + REASONS[what], x.status(what), before[what] + (what == reason ? 1 : 0));
        }
    }

    private static long[] statusOf(OnlyTwo x) {
        return new long[] {x.status(0), x.status(1), x.status(2)};
    }

    /** What can be seen of an object but STATUS, its images too. */
    private static long[] portraitOf(OnlyTwo x) {
        long[] seen = new long[80];
        int n = portraitOfCamp(x, seen, 0);
        for (int i = 0; i < 2; i++) {
            seen[n++] = x.from(i);
            n = portraitOfCamp(x, seen, n);
        }
        return seen;
    }

    private static int portraitOfCamp(OnlyTwo x, long[] seen, int from) {
        int n = from;
        int all = (1 << x.count(0)) - 1;
        seen[n++] = x.digest();
        for (int what = 0; what < 4; what++) {
            seen[n++] = x.count(what);
        }
        for (int i = 0; i < 3; i++) {
            seen[n++] = x.least(all, i);
            seen[n++] = x.row(all, i);
        }
        for (int i = -1; i < x.count(3); i++) {
            seen[n++] = x.carries(i);
        }
        seen[n++] = x.judged();
        seen[n++] = x.there();
        seen[n++] = x.turns(all & 15, all & 48);
        seen[n++] = x.fell(0, 0, -1);
        seen[n++] = x.ropes(100);
        return n;
    }

    static OnlyTwo none() {
        return new OnlyTwo();
    }

    /** Three porters, three gos, numbers that are not as at first, two loads, image 1; asked before, and refused before. */
    static OnlyTwo some() {
        OnlyTwo x = new OnlyTwo();
        x.porter(9, 9, 9, 2);
        x.put(0, 9);
        x.load(9);
        x.image(1);
        x.unload();
        Checks.typeAll(x, "porter 10 3 1 0;porter 14 4 2 2;porter 12 2 0 5;gap 3;evening 100;more 5;night 200;");
        Checks.typeAll(x, "go 0 0 1;go 4 0 1;go 200 1;");
        x.read();
        x.load(7);
        x.load(2);
        x.count(9);
        x.from(0);
        x.least(7, 0);
        x.carries(-1);
        return x;
    }

    /** All that there can be: six porters, twenty gos, 200 bytes, five loads, both images. */
    static OnlyTwo full() {
        OnlyTwo x = some();
        x.image(0);
        x.clear();
        Checks.typeAll(x, "porter9 3 1 0;porter9 2 1 1;porter9 4 0 2;porter9 9 9 3;porter9 1 5 4;");
        for (int i = 0; i < 20; i++) {
            Checks.typeAll(x, "go9 " + i % 5 + ";");
        }
        Checks.typeAll(x, " ".repeat(200 - x.count(2)));
        x.read();
        x.porter(9, 7, 3, 5);
        for (int i = 2; i < 5; i++) {
            x.load(i);
        }
        x.least(63, 0);
        x.carries(-1);
        return x;
    }

    /** So many porters of one kind, of unlike weights, each a minute. */
    static OnlyTwo porters(int count) {
        OnlyTwo x = new OnlyTwo();
        for (int i = 0; i < count; i++) {
            x.porter(10 + 5 * i, 1, i, 0);
        }
        return x;
    }

    /** Porters told as WEIGHT, TIME, HIRE, KIND. */
    static OnlyTwo with(int[]... told) {
        OnlyTwo x = new OnlyTwo();
        for (int[] p : told) {
            x.porter(p[0], p[1], p[2], p[3]);
        }
        return x;
    }

    static int[] p(int weight, int time, int hire, int kind) {
        return new int[] {weight, time, hire, kind};
    }

    /** Of calls one behind the other, what the last answered. */
    static long last(long... answers) {
        return answers[answers.length - 1];
    }

    static OnlyTwo put(OnlyTwo x, int what, int v) {
        x.put(what, v);
        return x;
    }
}
