import java.lang.reflect.Method;
import java.nio.charset.StandardCharsets;
import java.nio.file.Files;
import java.nio.file.Path;
import java.util.Set;
import java.util.TreeSet;
import java.util.regex.Matcher;
import java.util.regex.Pattern;

/** The calls that README.md shows, each with the answer that its comment begins with. */
public final class ReadmeTest {
    private static final Pattern CALL = Pattern.compile("x\\.(\\w+)\\(([^)]*)\\); +// (-?\\d+)(: .*)?");
    private static final Pattern QUOTED = Pattern.compile(": \"([^\"]*)\"");
    private static final String MADE = "OnlyTwo x = new OnlyTwo();";

    private final Checks c = new Checks();
    private final Set<String> shown = new TreeSet<>();
    private OnlyTwo x;

    public static void main(String[] args) throws Exception {
        new ReadmeTest().run(Files.readString(Path.of(System.getProperty("onlytwo.readme")), StandardCharsets.UTF_8));
    }

    private void run(String readme) throws Exception {
        Matcher blocks = Pattern.compile("(?s)```java\n(.*?)```").matcher(readme);
        while (blocks.find()) {
            for (String line : blocks.group(1).split("\n")) {
                make(line);
            }
        }
        for (Method m : OnlyTwo.class.getDeclaredMethods()) {
            if ((m.getModifiers() & java.lang.reflect.Modifier.PUBLIC) != 0) {
                c.holds("README.md shows a call of " + m.getName(), shown.contains(m.getName()));
            }
        }
        c.finish();
    }

    private void make(String line) throws Exception {
        if (line.equals(MADE)) {
            x = new OnlyTwo();
            return;
        }
        Matcher call = CALL.matcher(line);
        boolean known = call.matches() && x != null;
        c.holds("README.md: a call with its answer, on an object that was made: " + line, known);
        if (known) {
            shown.add(call.group(1));
            c.due("README.md: " + line, answer(call.group(1), call.group(2)), Long.parseLong(call.group(3)));
            quoted(line, call.group(2), call.group(4));
        }
    }

    private long answer(String name, String told) throws Exception {
        String[] words = told.isEmpty() ? new String[0] : told.split(", ");
        for (Method m : OnlyTwo.class.getDeclaredMethods()) {
            if (m.getName().equals(name) && m.getParameterCount() == words.length) {
                Object[] values = new Object[words.length];
                for (int i = 0; i < words.length; i++) {
                    boolean isLong = m.getParameterTypes()[i] == long.class;
                    values[i] = isLong ? (Object) number(words[i]) : (Object) Math.toIntExact(number(words[i]));
                }
                return ((Number) m.invoke(x, values)).longValue();
            }
        }
        throw new IllegalArgumentException("README.md: no call " + name + "(" + told + ")");
    }

    /** A comment that quotes the bytes that are typed has to quote them rightly. */
    private void quoted(String line, String told, String comment) {
        Matcher text = QUOTED.matcher(comment == null ? "" : comment);
        if (text.matches()) {
            long v = 0;
            for (char b : text.group(1).toCharArray()) {
                v = v << 8 | b;
            }
            c.holds("README.md: quoted as typed: " + line, told.endsWith(", " + text.group(1).length())
                && v == number(told.substring(0, told.indexOf(','))));
        }
    }

    private static long number(String word) {
        return Long.decode(word.replaceFirst("L$", ""));
    }
}
