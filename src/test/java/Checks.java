/** What all tests share: answers that are due, and the exit code. */
final class Checks {
    private int asked = 0;
    private int wrong = 0;

    void due(String call, long got, long want) {
        asked++;
        if (got != want) {
            wrong++;
            if (wrong <= 50) {
                System.out.println(call + " answered " + got + ", due is " + want);
            }
        }
    }

    void holds(String what, boolean held) {
        asked++;
        if (!held) {
            wrong++;
            System.out.println("does not hold: " + what);
        }
    }

    int wrong() {
        return wrong;
    }

    void finish() {
        System.out.println(asked + " answers, " + wrong + " not as due");
        if (wrong != 0 || asked == 0) {
            System.exit(1);
        }
    }

    /** Types a text in pieces of at most eight bytes; answers what the last piece answered. */
    static int typeAll(OnlyTwo x, String text) {
        int answer = x.count(2);
        for (int at = 0; at < text.length(); at += 8) {
            int n = Math.min(8, text.length() - at);
            long v = 0;
            for (int i = 0; i < n; i++) {
                v = v << 8 | text.charAt(at + i) & 255;
            }
            answer = x.type(v, n);
        }
        return answer;
    }

    /** A new object that has read a text. */
    static OnlyTwo dayOf(String text) {
        OnlyTwo x = new OnlyTwo();
        typeAll(x, text);
        x.read();
        return x;
    }

    static int readOf(String text) {
        OnlyTwo x = new OnlyTwo();
        typeAll(x, text);
        return x.read();
    }
}
