import java.util.Random;

/** Runs of random calls, ordinary and wrong ones, compared with PlainTwo. The seeds are fixed. */
public final class RandomRunsTest {
    /** An object is promised for 512 calls; a step takes fewer than 80 of them. */
    private static final int RUNS = 1300, CALLS = 512, CALLS_OF_STEP = 80;
    private static final int[] EXTREMES = {Integer.MIN_VALUE, Integer.MAX_VALUE, -1, -2, 0, 6, 31, 32, 63, 64, 240, 241};
    private static final String[] WORDS = {"porter", "gap", "evening", "more", "night", "go", "x", "got"};

    private final Random random;
    private final OnlyTwo x = new OnlyTwo();
    private final PlainTwo y = new PlainTwo();
    private final Checks c;
    private final int run;
    private final int[] dimensions;
    private int calls = 0;

    private RandomRunsTest(int run, Checks c) {
        this.run = run;
        this.c = c;
        random = new Random(run);
        // Small weights, times and hires make many rows alike; great ones reach the day's end.
        dimensions = new int[] {pick(5, 15, 60), pick(2, 8, 30), pick(0, 1, 99), pick(1, 6, 6)};
    }

    public static void main(String[] args) {
        Checks c = new Checks();
        for (int run = 0; run < RUNS && c.wrong() == 0; run++) {
            RandomRunsTest test = new RandomRunsTest(run, c);
            while (test.calls + CALLS_OF_STEP <= CALLS) {
                test.step();
            }
        }
        c.finish();
    }

    private int pick(int... from) {
        return from[random.nextInt(from.length)];
    }

    /** Mostly in bounds, sometimes just outside, sometimes far off. */
    private int in(int lowest, int highest) {
        int how = random.nextInt(60);
        if (how == 0) {
            return pick(EXTREMES);
        }
        if (how == 1) {
            return random.nextBoolean() ? lowest - 1 : highest + 1;
        }
        return lowest + random.nextInt(highest - lowest + 1);
    }

    private int set() {
        return in(0, (1 << y.count(0)) - 1);
    }

    private void due(String call, long got, long want) {
        calls += 2;
        c.due("run " + run + ": " + call, got, want);
        c.due("run " + run + ": digest behind " + call, x.digest(), y.digest());
    }

    private void step() {
        int how = random.nextInt(100);
        if (how < 45) {
            change(how);
        } else {
            ask(how);
        }
        calls += 3;
        for (int what = 0; what < 3; what++) {
            c.due("run " + run + ": status " + what, x.status(what), y.status(what));
        }
    }

    private void change(int how) {
        int a = in(1, dimensions[0]);
        int b = in(1, dimensions[1]);
        int d = in(0, dimensions[2]);
        int k = in(0, dimensions[3] - 1);
        int n = in(0, 3);
        int i = in(0, 1);
        if (how < 12) {
            due("porter", x.porter(a, b, d, k), y.porter(a, b, d, k));
        } else if (how < 20) {
            int v = in(0, n == 0 ? pick(2, 20) : n == 2 ? 20 : pick(10, 60, 239));
            due("put(" + n + ", " + v + ")", x.put(n, v), y.put(n, v));
        } else if (how < 32) {
            type();
        } else if (how < 37) {
            due("load", x.load(a), y.load(a));
        } else if (how < 38) {
            due("unload", x.unload(), y.unload());
        } else if (how < 41) {
            due("image", x.image(i), y.image(i));
        } else if (how < 44) {
            due("from", x.from(i), y.from(i));
        } else {
            due("clear", x.clear(), y.clear());
        }
    }

    private void ask(int how) {
        int band = set();
        int other = random.nextInt(4) == 0 ? set() : set() & ~band;
        int minute = in(0, 239);
        int what = in(0, 2);
        int i = in(-1, 5);
        int p = in(0, Math.max(0, y.count(0) - 1));
        switch ((how - 45) / 4) {
            case 0: due("of", x.of(p, minute, what), y.of(p, minute, what)); break;
            case 1: due("why(" + band + ", " + minute + ")", x.why(band, minute), y.why(band, minute)); break;
            case 2: due("judged", x.judged(), y.judged()); break;
            case 3: due("there", x.there(), y.there()); break;
            case 4: case 5: due("least(" + band + ", " + what + ")", x.least(band, what), y.least(band, what)); break;
            case 6: case 7: due("row(" + band + ", " + i + ")", x.row(band, i), y.row(band, i)); break;
            case 8: due("worth(" + band + ", " + p + ")", x.worth(band, p), y.worth(band, p)); break;
            case 9: due("turns(" + band + ", " + other + ")", x.turns(band, other), y.turns(band, other)); break;
            case 10: due("carries(" + i + ")", x.carries(i), y.carries(i)); break;
            case 11: due("fell", x.fell(band, minute, i), y.fell(band, minute, i)); break;
            case 12: int limit = in(1, pick(100, 1000, 30000)); due("ropes", x.ropes(limit), y.ropes(limit)); break;
            default: due("count", x.count(i), y.count(i)); due("status", x.status(i), y.status(i)); break;
        }
    }

    /** Either some bytes, or a whole day that is mostly well told, and read. */
    private void type() {
        if (random.nextInt(4) == 0) {
            long v = random.nextLong();
            int n = in(1, 8);
            type(v, n);
            due("read", x.read(), y.read());
            return;
        }
        String text = day();
        due("clear", x.clear(), y.clear());
        for (int at = 0; at < text.length(); at += 8) {
            String piece = text.substring(at, Math.min(at + 8, text.length()));
            long v = random.nextLong();
            for (char b : piece.toCharArray()) {
                v = v << 8 | b;
            }
            type(v, piece.length());
        }
        due("read of '" + text + "'", x.read(), y.read());
    }

    private void type(long v, int n) {
        due("type", x.type(v, n), y.type(v, n));
    }

    private String day() {
        StringBuilder text = new StringBuilder();
        int porters = 0;
        int minute = 0;
        int items = random.nextInt(20);
        for (int k = 0; k < items && text.length() < 190; k++) {
            String word = k < 4 ? WORDS[pick(0, 0, 0, 1)] : WORDS[random.nextInt(40) == 0 ? pick(6, 7) : pick(0, 1, 2, 3, 4, 5, 5, 5, 5, 5)];
            text.append(word).append(random.nextInt(30) == 0 ? "" : " ");
            if (word.equals("porter")) {
                text.append(in(1, dimensions[0])).append(' ').append(in(1, dimensions[1])).append(' ');
                text.append(in(0, dimensions[2])).append(' ').append(in(0, dimensions[3] - 1));
                porters++;
            } else if (word.equals("go")) {
                minute += random.nextInt(random.nextInt(4) == 0 ? 60 : 10);
                int a = in(0, Math.max(0, porters - 1));
                text.append(in(minute, minute)).append(' ').append(a);
                if (random.nextInt(5) > 0) {
                    text.append(' ').append(in(0, Math.max(0, porters - 1)));
                }
            } else {
                text.append(in(0, word.equals("night") ? 240 : word.equals("evening") ? 239 : 20));
            }
            text.append(random.nextInt(40) == 0 ? " " : ";");
        }
        if (random.nextInt(6) == 0 && text.length() > 0) {
            text.setCharAt(random.nextInt(text.length()), (char) pick('0', '1', 'a', ';', ' ', '!', 0, 255));
        }
        return text.toString();
    }
}
