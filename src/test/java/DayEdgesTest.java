import java.util.List;
import java.util.function.Supplier;

/** Promises 6 to 10: every sentence that names a boundary of THE DAY, its text, its faults and its gos. */
public final class DayEdgesTest {
    private static final Edges e = new Edges();
    private static final String ONE = "porter 1 1 1 1;";
    private static final String TWO = "porter 10 3 1 0;porter 14 4 2 0;";

    public static void main(String[] args) {
        typeRanges();
        typeBytes();
        clear();
        readNumbersOfItems();
        readFigures();
        readBytes();
        readWords();
        readEndsTooEarly();
        readTooMany();
        readLength();
        readGos();
        readFirstFault();
        readTakesThePlace();
        judgedFree();
        judgedSides();
        judgedReasons();
        judgedOrder();
        judgedNumbers();
        there();
        e.finish();
    }

    private static OnlyTwo bytes(int count) {
        OnlyTwo x = Edges.some();
        x.clear();
        Checks.typeAll(x, " ".repeat(count));
        return x;
    }

    private static OnlyTwo typed(String text) {
        OnlyTwo x = Edges.some();
        x.clear();
        Checks.typeAll(x, text);
        return x;
    }

    private static void reads(String sentence, String text, int gos) {
        e.taken(sentence + " '" + text + "'", () -> typed(text), OnlyTwo::read, gos);
    }

    private static void faults(String sentence, String text, int place) {
        e.leaves(sentence + " '" + text + "'", () -> typed(text), OnlyTwo::read, -10 - place);
    }

    private static void typeRanges() {
        e.promise(6, "type");
        for (Supplier<OnlyTwo> made : List.<Supplier<OnlyTwo>>of(Edges::none, Edges::some)) {
            e.range("n is 1 .. 8", made, (x, v) -> x.type(0, v), 1, 8, -2);
        }
        for (int had = 190; had <= 200; had++) {
            for (int n = 1; n <= 8; n++) {
                int before = had;
                int more = n;
                String sentence = "200 bytes at most, " + n + " to " + had;
                if (had + n <= 200) {
                    e.taken(sentence, () -> bytes(before), x -> x.type(-1L, more), had + n);
                } else {
                    e.refused(sentence, () -> bytes(before), x -> x.type(-1L, more), OnlyTwo.FULL, Edges.FULL);
                }
            }
        }
        e.refused("BAD ahead of FULL, 0", Edges::full, x -> x.type(0, 0), OnlyTwo.BAD, Edges.BAD);
        e.refused("BAD ahead of FULL, 9", Edges::full, x -> x.type(0, 9), OnlyTwo.BAD, Edges.BAD);
        e.refused("BAD ahead of FULL, far", Edges::full, x -> x.type(0, Integer.MAX_VALUE), OnlyTwo.BAD, Edges.BAD);
        e.taken("not FULL any more behind clear", Edges::full, x -> x.clear() + x.type(0, 8), 200 + 8);
    }

    private static void typeBytes() {
        long v = 0x8182838485868788L;
        for (int n = 1; n <= 8; n++) {
            int[] due = new int[n];
            for (int i = 0; i < n; i++) {
                due[i] = 0x89 - n + i;
            }
            OnlyTwo x = Edges.none();
            x.type(v, n);
            e.due("the lowest " + n + ", the highest of them first", x.digest(), digestOfBytes(due));
        }
        OnlyTwo x = Edges.none();
        x.type(Long.MIN_VALUE, 8);
        x.type(Long.MAX_VALUE, 2);
        x.type(-1L, 1);
        x.type(256L, 1);
        e.due("the least, the greatest and -1", x.digest(), digestOfBytes(128, 0, 0, 0, 0, 0, 0, 0, 255, 255, 255, 0));
    }

    private static long digestOfBytes(int... bytes) {
        long h = 631;
        for (int v : new int[] {0, 0, bytes.length, 0, 2, 120, 3, 180}) {
            h = 31 * h + v;
        }
        for (int v : bytes) {
            h = 31 * h + v;
        }
        return h;
    }

    private static void clear() {
        e.promise(7, "clear");
        e.leaves("an empty one had 0", Edges::none, OnlyTwo::clear, 0);
        e.taken("one byte", () -> bytes(1), OnlyTwo::clear, 1);
        e.taken("a full one had 200", Edges::full, OnlyTwo::clear, 200);
        e.taken("it is empty", Edges::full, x -> x.clear() + x.count(2), 200);
        e.taken("twice", Edges::full, x -> x.clear() + x.clear(), 200);
        e.taken("PORTERS stay", Edges::full, x -> x.clear() + x.count(0), 206);
        e.taken("gos stay", Edges::full, x -> x.clear() + x.count(1), 220);
        e.taken("LOADS stay", Edges::full, x -> x.clear() + x.count(3), 205);
        e.taken("NUMBERS stay", Edges::some, x -> Edges.last(x.clear(), x.put(1, 0)), 100);
        e.taken("gos are judged as before", Edges::some, x -> Edges.last(x.clear(), x.judged()), -1);
        e.taken("an empty one is read: no PORTERS", Edges::full, x -> Edges.last(x.clear(), x.read(), x.count(0)), 0);
        e.taken("an empty one is read: no gos", Edges::full, x -> Edges.last(x.clear(), x.read(), x.count(1)), 0);
        e.taken("an empty one is read: no fault", Edges::full, x -> Edges.last(x.clear(), x.read()), 0);
    }

    private static void rangeInText(String item, String behind, int lowest, int highest) {
        reads(item + " n, the least", ONE + item + " " + lowest + behind, 0);
        reads(item + " n, the most", ONE + item + " " + highest + behind, 0);
        int place = ONE.length() + item.length() + 1;
        if (lowest > 0) {
            faults(item + " n, one less", ONE + item + " " + (lowest - 1) + behind, place);
        }
        faults(item + " n, one more", ONE + item + " " + (highest + 1) + behind, place);
        faults(item + " n, the most figures", ONE + item + " 999" + behind, place);
        faults(item + " n, a fourth figure", ONE + item + " 1000" + behind, place);
        faults(item + " n, none", ONE + item + " ;", place);
        faults(item + " n, below none", ONE + item + " -1" + behind, place);
    }

    private static void readNumbersOfItems() {
        e.promise(8, "read");
        rangeInText("gap", ";", 0, 20);
        rangeInText("evening", ";", 0, 239);
        rangeInText("more", ";", 0, 20);
        rangeInText("night", ";", 0, 240);
        rangeInText("porter", " 1 0 0;", 1, 60);
        rangeInText("porter 1", " 0 0;", 1, 30);
        rangeInText("porter 1 1", " 0;", 0, 99);
        rangeInText("porter 1 1 0", ";", 0, 5);
        reads("a go's minute, the least", ONE + "go 0 0;", 1);
        reads("a go's minute, the most", ONE + "go 239 0;", 1);
        faults("a go's minute, one more", ONE + "go 240 0;", 18);
    }

    private static void readFigures() {
        reads("1 figure is one number", "gap 7;", 0);
        reads("2 figures are one number", "gap 07;", 0);
        reads("3 figures are one number", "gap 007;", 0);
        faults("4 figures are none", "gap 0007;", 4);
        faults("5 figures are none", "gap 00007;", 4);
        faults("the fourth figure is the last byte", "gap 0007", 4);
        faults("196 figures are none", "gap " + "0".repeat(196), 4);
        e.taken("007 is 7", () -> typed("gap 007;"), x -> Edges.last(x.read(), x.put(0, 0)), 7);
        e.taken("240 is 240", () -> typed("night 240;"), x -> Edges.last(x.read(), x.put(3, 0)), 240);
        e.taken("numbers end at blanks alone", () -> typed("porter 12 3 45 0;"), x -> Edges.last(x.read(), x.of(0, 0, 0)), 12);
        faults("figures with a blank are two numbers", "gap 0 7;", 6);
        reads("a number against a word", ONE + "go0 0;", 1);
        faults("a word against a number", ONE + "go 0a 0;", 19);
        faults("a fourth figure in a go's PORTER", ONE + "go 0 0000;", 20);
        faults("a fourth figure in a go's other PORTER", ONE + ONE + "go 0 0 0001;", 37);
    }

    private static boolean isOfTokens(int b) {
        return b >= 'a' && b <= 'z' || b >= '0' && b <= '9' || b == ';' || b == ' ';
    }

    private static void readBytes() {
        for (int b = 0; b < 256; b++) {
            String sign = String.valueOf((char) b);
            if (isOfTokens(b)) {
                continue;
            }
            faults("byte " + b + " begins none, first", sign, 0);
            faults("byte " + b + " begins none, behind a word", "gap" + sign + "2;", 3);
            faults("byte " + b + " begins none, in a word", "ga" + sign + "p 2;", 0);
            faults("byte " + b + " begins none, for a number", "gap " + sign + ";", 4);
            faults("byte " + b + " begins none, behind a number", "gap 2" + sign + ";", 5);
            faults("byte " + b + " begins none, behind an item", "gap 2;" + sign, 6);
        }
        for (char b = 'a'; b <= 'z'; b++) {
            faults("a letter begins a word", "gap 2;" + b, 6);
            faults("a letter goes on with a word", "gap" + b + " 2;", 0);
        }
        for (char b = '0'; b <= '9'; b++) {
            faults("a figure begins no ITEM", "gap 2;" + b + ";", 6);
            reads("a figure ends a word", "gap" + b + ";", 0);
        }
        reads("blanks between", "  gap  2  ;  ", 0);
        reads("no blanks between", "gap2;more3;", 0);
        reads("blanks alone", "   ", 0);
        faults("; begins no ITEM", ";", 0);
        faults("; behind ;", "gap 2;;", 6);
        faults("; for a number", "gap;", 3);
    }

    private static void readWords() {
        String[] items = {"porter 1 1 1 1;", "gap 1;", "evening 1;", "more 1;", "night 1;", "go 1 0;"};
        for (String item : items) {
            int end = item.indexOf(' ');
            String word = item.substring(0, end);
            int gos = word.equals("go") ? 1 : 0;
            reads("a word", ONE + item, gos);
            faults("a word less its last letter", ONE + word.substring(0, end - 1) + item.substring(end), 15);
            faults("a word less its first letter", ONE + item.substring(1), 15);
            faults("a word with a letter more", ONE + word + "s" + item.substring(end), 15);
            faults("a word with a letter ahead", ONE + "s" + item, 15);
            faults("a word of capitals", ONE + word.toUpperCase() + item.substring(end), 15);
            faults("a word for a number", ONE + word + " " + word, 15 + end + 1);
            faults("two words in one", ONE + word + word + item.substring(end), 15);
            faults("a word for ;", ONE + item.substring(0, item.length() - 1) + " " + word, 15 + item.length());
        }
    }

    private static void readEndsTooEarly() {
        reads("an empty one: none", "", 0);
        String text = "porter 10 3 1 0;go 0 0;";
        for (int length = 0; length <= text.length(); length++) {
            String cut = text.substring(0, length);
            if (length == 0 || length == 16 || length == 23) {
                reads("it ends behind an ITEM", cut, length == 23 ? 1 : 0);
            } else if (length < 6) {
                faults("it ends in a word that is none", cut, 0);
            } else if (length == 17) {
                faults("it ends in a word that is none", cut, 16);
            } else {
                faults("it ends too early", cut, length);
            }
        }
        faults("it ends too early, behind blanks", "gap 1   ", 8);
        faults("it ends too early, behind a word and blanks", "gap   ", 6);
        faults("no ; at the end", TWO + "go 0 0 1", TWO.length() + 8);
    }

    private static void readTooMany() {
        String six = "porter 1 1 0 0;".repeat(6);
        reads("six PORTERS", six, 0);
        faults("a 7th porter at its word", six + "porter 1 1 0 0;", 90);
        faults("a 7th porter at its word, with nothing behind it", six + " porter", 91);
        faults("a 7th porter at its word, though its numbers are wrong", six + "porter 0 0 0 9;", 90);
        faults("a 7th porter behind a go", six + "go 0 5;porter 1 1 0 0;", 97);
        reads("six PORTERS, and other ITEMS", six + "gap 1;go 0 5;", 1);
        String twenty = ONE + "go 0 0;".repeat(20);
        reads("20 gos", twenty, 20);
        faults("a 21st go at its word", twenty + "go 0 0;", 155);
        faults("a 21st go at its word, with nothing behind it", twenty + " go", 156);
        faults("a 21st go at its word, though its numbers are wrong", twenty + "go 999 9;", 155);
        reads("20 gos, and other ITEMS", twenty + "gap 1;" + ONE, 20);
    }

    private static void readLength() {
        reads("200 bytes, the last ends an ITEM", " ".repeat(193) + "night1;", 0);
        reads("200 blanks", " ".repeat(200), 0);
        faults("200 bytes, the last begins none", " ".repeat(199) + "!", 199);
        faults("200 bytes, the last begins a word", " ".repeat(199) + "g", 199);
        faults("200 bytes, it ends too early", " ".repeat(195) + "gap 1", 200);
        faults("199 bytes, it ends too early", " ".repeat(194) + "gap 1", 199);
        reads("200 bytes, the most ITEMS", "gap2;".repeat(40), 0);
    }

    private static void readGos() {
        String go = TWO + "go 5 0;";
        int at = go.length();
        reads("t as that of the go ahead", go + "go 5 0;", 2);
        reads("t one more", go + "go 6 0;", 2);
        faults("t one less", go + "go 4 0;", at + 3);
        faults("t is no less than that of the go just ahead", go + "go 9 0;go 8 0;", at + 10);
        faults("t is no less, an ITEM between", go + "gap 1;go 4 0;", at + 9);
        reads("t at the last", go + "go 239 0;go 239 0;", 3);
        reads("the first PORTER ahead", TWO + "go 0 0;", 1);
        reads("the last PORTER ahead", TWO + "go 0 1;", 1);
        faults("one behind the last PORTER", TWO + "go 0 2;", TWO.length() + 5);
        faults("no PORTER ahead at all", "go 0 0;", 5);
        faults("a PORTER that comes later", ONE + "go 0 1;" + ONE, 20);
        reads("a PORTER that comes just ahead", ONE + "go 0 0;" + ONE + "go 0 1;", 2);
        reads("two PORTERS, unlike", TWO + "go 0 1 0;", 1);
        faults("two PORTERS alike", TWO + "go 0 1 1;", TWO.length() + 7);
        faults("the other is one behind the last", TWO + "go 0 1 2;", TWO.length() + 7);
        faults("three PORTERS", TWO + ONE + "go 0 0 1 2;", TWO.length() + 15 + 9);
        faults("no PORTER", TWO + "go 0;", TWO.length() + 4);
        faults("no minute", TWO + "go;", TWO.length() + 2);
        reads("PORTERS of a DAY before do not count, those of this do", TWO + "go 0 0 1;", 1);
        faults("PORTERS of a DAY before do not count", ONE + "go 0 2;", 20);
        reads("gos of a DAY before do not count", ONE + "go 0 0;", 1);
    }

    private static void readFirstFault() {
        faults("the first of two in one ITEM", "porter 0 31 1 1;", 7);
        faults("the first of two ITEMS", "gap 21;more 21;", 4);
        faults("a word that is none ahead of its end", "gapp", 0);
        faults("a number not as told ahead of its end", "gap 21", 4);
        faults("behind many ITEMS", "gap 1;more 2;night 3;evening 4;x", 31);
    }

    private static void readTakesThePlace() {
        for (int what = 0; what < 4; what++) {
            int n = what;
            int[] first = {2, 120, 3, 180};
            String[] words = {"gap", "evening", "more", "night"};
            e.taken("a NUMBER not told is as at first", () -> typed(ONE), x -> Edges.last(x.read(), x.put(n, 0)), first[n]);
            e.taken("a NUMBER told", () -> typed(words[n] + " 0;"), x -> Edges.last(x.read(), x.put(n, 1)), 0);
            e.taken("a NUMBER told twice", () -> typed(words[n] + " 1;" + words[n] + " 9;"), x -> Edges.last(x.read(), x.put(n, 1)), 9);
        }
        e.taken("all PORTERS", () -> typed(ONE), x -> Edges.last(x.read(), x.count(0)), 1);
        e.taken("all PORTERS, none", () -> typed("gap 1;"), x -> Edges.last(x.read(), x.count(0)), 0);
        e.taken("all gos", () -> typed(TWO + "go 9 1;"), x -> x.read() + 10 * x.count(1), 11);
        e.taken("all gos, none", () -> typed(TWO), x -> Edges.last(x.read(), x.count(1)), 0);
        e.taken("LOADS stay", () -> typed(""), x -> Edges.last(x.read(), x.count(3)), 2);
        e.taken("bytes stay", () -> typed(ONE), x -> Edges.last(x.read(), x.count(2)), 15);
        e.taken("it is read twice alike", () -> typed(TWO + "go 9 1;"), x -> 10 * x.read() + x.read(), 11);
        e.taken("what was planned is planned anew", () -> typed(TWO), x -> Edges.last(x.least(3, 0), x.read(), x.least(3, 0)), 4);
        e.taken("what is carried is found anew", () -> typed(TWO), x -> Edges.last(x.carries(-1), x.read(), x.carries(-1)), 1);
    }

    private static void judges(String sentence, String text, int want) {
        e.leaves(sentence + " '" + text + "'", () -> Checks.dayOf(text), OnlyTwo::judged, want);
    }

    private static void judgedFree() {
        e.promise(9, "judged");
        judges("it begins as the one ahead ends", TWO + "go 0 0 1;go 4 0 1;", -1);
        judges("it begins a minute ahead of that", TWO + "go 0 0 1;go 3 0 1;", 11);
        judges("in the same minute", TWO + "go 0 0 1;go 0 0 1;", 11);
        judges("LAME, as the one ahead ends", "porter 1 30 0 1;porter 9 1 0 0;go 0 0 1;go 60 0 1;", -1);
        judges("LAME, a minute ahead of that", "porter 1 30 0 1;porter 9 1 0 0;go 0 0 1;go 59 0 1;", 11);
        judges("in minute 0 the bridge is free", TWO + "go 0 0 1;", -1);
    }

    private static void judgedSides() {
        judges("all are at SIDE 0 at first", "porter 1 1 0 0;porter 9 1 0 0;porter 20 1 0 0;go 0 0 1;go 1 0 1;go 2 1 2;", -1);
        judges("one has crossed", "porter 1 1 0 0;porter 9 1 0 0;porter 20 1 0 0;go 0 0 1;go 1 1 2;", 12);
        judges("both have crossed", "porter 1 1 0 0;porter 9 1 0 0;porter 20 1 0 0;go 0 0 1;go 1 0 1;go 2 0 2;", -1);
        judges("one is always on one SIDE", TWO + "night 10;go 0 0 1;go 10 0;go 13 0;go 16 1;", -1);
    }

    private static void judgedReasons() {
        judges("one ahead of NIGHT", ONE + "night 9;go 8 0;", 3);
        judges("one from NIGHT on", ONE + "night 9;go 9 0;", -1);
        judges("two ahead of NIGHT", TWO + "night 9;go 8 0 1;", -1);
        judges("two from NIGHT on", TWO + "night 9;go 9 0 1;", 3);
        judges("NIGHT 0", ONE + "night 0;go 0 0;", -1);
        judges("NIGHT 240", ONE + "night 240;go 239 0;", 3);
        judges("TIED 0", "porter 1 1 0 3;porter 9 1 0 0;go 0 0 1;", 4);
        judges("TIED with the one less", "porter 1 1 0 0;porter 9 1 0 3;go 0 0 1;", -1);
        judges("AFRAID from NIGHT on", "porter 1 1 0 4;go 180 0;", 4);
        judges("AFRAID ahead of NIGHT", "porter 1 1 0 4;porter 9 1 0 0;go 179 0 1;", -1);
        judges("GAP apart", TWO + "gap 4;go 0 0 1;", -1);
        judges("GAP less one apart", TWO + "gap 5;go 0 0 1;", 5);
        judges("HEAVY ahead of EVENING", "porter 9 1 0 2;porter 9 1 0 0;evening 7;go 6 0 1;", 5);
        judges("HEAVY from EVENING on", "porter 9 1 0 2;porter 9 1 0 0;evening 7;go 7 0 1;", -1);
        judges("it ends at 240", TWO + "night 240;go 236 0 1;", -1);
        judges("it ends at 241", TWO + "night 240;go 237 0 1;", 6);
        judges("at night it ends at 240", TWO + "go 237 0;", -1);
        judges("at night it ends at 241", TWO + "go 238 0;", 6);
    }

    private static void judgedOrder() {
        String three = "porter 9 30 0 4;porter 9 30 0 3;porter 9 30 0 0;gap 0;";
        judges("1 ahead of 2", three + "go 0 0 1;go 29 1 2;", 11);
        judges("2 ahead of 3", three + "night 60;go 0 0 1;go 60 1 2;", 12);
        judges("2 ahead of 4", three + "go 0 0 1;go 60 1 2;", 12);
        judges("3 ahead of 4", three + "go 0 1;", 3);
        judges("3 ahead of 6", three + "go 239 0 1;", 3);
        judges("4 ahead of 5", three + "gap 1;go 0 1 2;", 4);
        judges("4 ahead of 6", three + "night 0;go 239 0;", 4);
        judges("5 ahead of 6", three + "gap 1;more 0;night 240;go 239 0 2;", 5);
        judges("6 at the last", three + "night 240;go 239 0 2;", 6);
    }

    private static void judgedNumbers() {
        StringBuilder text = new StringBuilder("porter1 1 0 0;porter9 1 0 0;");
        for (int i = 0; i < 19; i++) {
            text.append("go").append(i).append(" 0 1;");
        }
        judges("no gos: all are", TWO, -1);
        judges("20 gos: all are", text + "go19 0 1;", -1);
        judges("the last of 20 is none", text + "go19 0;", 193);
        judges("the first of two that are none", TWO + "go 0 0;go 0 0 1;go 0 0;", 3);
        e.taken("by NUMBERS as they are", () -> Edges.put(Checks.dayOf(TWO + "go 0 0 1;"), 0, 5), OnlyTwo::judged, 5);
        e.taken("by NUMBERS as they are", () -> Edges.put(Checks.dayOf(TWO + "go 0 0 1;"), 3, 0), OnlyTwo::judged, 3);
    }

    private static void stand(String sentence, String text, int want) {
        e.leaves(sentence + " '" + text + "'", () -> Checks.dayOf(text), OnlyTwo::there, want);
    }

    private static void there() {
        e.promise(10, "there");
        stand("no PORTERS", "", 0);
        stand("no gos", TWO, 0);
        stand("all gos", TWO + "go 0 0 1;", 3);
        stand("back again", TWO + "go 0 0 1;go 4 0 1;", 0);
        stand("the first is none", TWO + "go 0 0;go 1 0 1;", 0);
        stand("that which is none is not behind", TWO + "go 0 0 1;go 3 0 1;", 3);
        stand("nor are those behind it", TWO + "go 0 0 1;go 3 0 1;go 9 0 1;", 3);
        stand("the last is none", TWO + "go 0 0 1;go 4 0 1;go 8 0 1;go 12 0;", 3);
        stand("one at night", TWO + "night 0;go 0 1;", 2);
        String six = "porter1 1 0 5;".repeat(6);
        stand("all six", six + "go 0 0 1;go 1 2 3;go 2 4 5;", 63);
        stand("the sixth alone", six + "night 0;go 0 5;", 32);
        StringBuilder twenty = new StringBuilder("porter1 1 0 5;night0;");
        for (int i = 0; i < 20; i++) {
            twenty.append("go").append(i).append(" 0;");
        }
        stand("behind 20 gos", twenty.toString(), 0);
        String three = "porter1 1 0 5;porter1 1 0 5;porter1 1 0 5;night0;";
        StringBuilder walk = new StringBuilder(three);
        for (int i = 0; i < 17; i++) {
            walk.append("go").append(i).append(" 0;");
        }
        stand("the last of 20 gos is none", walk + "go17 1;go18 2;go18 0;", 7);
        stand("the last of 20 gos is one", walk + "go17 1;go18 2;go19 0;", 6);
        stand("behind 19 gos", twenty.substring(0, twenty.length() - 7), 1);
    }
}
