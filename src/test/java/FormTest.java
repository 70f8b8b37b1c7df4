import java.lang.reflect.Constructor;
import java.lang.reflect.Field;
import java.lang.reflect.Method;
import java.lang.reflect.Modifier;
import java.nio.charset.StandardCharsets;
import java.nio.file.Files;
import java.nio.file.Path;
import java.util.Arrays;
import java.util.List;
import java.util.Set;
import java.util.TreeSet;
import java.util.regex.Matcher;
import java.util.regex.Pattern;

/** The public face as the document tells it, and what of LANGUAGE.md can be seen from outside. */
public final class FormTest {
    private static final Checks c = new Checks();
    private static final List<String> FACE = List.of(
        "int porter(int,int,int,int)", "int put(int,int)", "int of(int,int,int)", "int why(int,int)", "int type(long,int)",
        "int clear()", "int read()", "int judged()", "int there()", "int least(int,int)", "int row(int,int)",
        "int worth(int,int)", "int turns(int,int)", "int load(int)", "int unload()", "int carries(int)",
        "int fell(int,int,int)", "int ropes(int)", "int image(int)", "int from(int)", "int status(int)", "int count(int)",
        "long digest()");

    public static void main(String[] args) throws Exception {
        face();
        inside();
        source();
        c.finish();
    }

    private static String told(Method m) {
        StringBuilder text = new StringBuilder(m.getReturnType().getName() + " " + m.getName() + "(");
        for (int i = 0; i < m.getParameterCount(); i++) {
            text.append(i == 0 ? "" : ",").append(m.getParameterTypes()[i].getName());
        }
        return text + ")";
    }

    private static void face() {
        Set<String> open = new TreeSet<>();
        for (Method m : OnlyTwo.class.getDeclaredMethods()) {
            if (!Modifier.isPrivate(m.getModifiers())) {
                c.holds(m + " is public and of the object", m.getModifiers() == Modifier.PUBLIC);
                open.add(told(m));
            }
        }
        c.holds("the methods are those of the document: " + open, open.equals(new TreeSet<>(FACE)));
        Set<String> constants = new TreeSet<>();
        for (Field f : OnlyTwo.class.getDeclaredFields()) {
            if (!Modifier.isPrivate(f.getModifiers())) {
                constants.add(f.getName());
            }
        }
        c.holds("the constants: " + constants, constants.equals(new TreeSet<>(List.of("NONE", "BAD", "NO", "FULL"))));
        Constructor<?>[] made = OnlyTwo.class.getDeclaredConstructors();
        c.holds("one constructor", made.length == 1 && made[0].getParameterCount() == 0 && Modifier.isPublic(made[0].getModifiers()));
        c.holds("public and final", OnlyTwo.class.getModifiers() == (Modifier.PUBLIC | Modifier.FINAL));
    }

    private static void inside() {
        Set<String> names = new TreeSet<>();
        FACE.forEach(f -> names.add(f.substring(f.indexOf(' ') + 1, f.indexOf('('))));
        Class<?>[] classes = Arrays.copyOf(OnlyTwo.class.getDeclaredClasses(), OnlyTwo.class.getDeclaredClasses().length + 1);
        classes[classes.length - 1] = OnlyTwo.class;
        c.holds("at most twelve classes", classes.length <= 12);
        for (Class<?> one : classes) {
            c.holds(one + " is static", one == OnlyTwo.class || Modifier.isStatic(one.getModifiers()));
            int fields = 0;
            for (Field f : one.getDeclaredFields()) {
                boolean isStatic = Modifier.isStatic(f.getModifiers());
                c.holds(f + " is final, if static", !isStatic || Modifier.isFinal(f.getModifiers()));
                fields += isStatic ? 0 : 1;
            }
            c.holds(one + " has some twenty fields at most", fields <= 20);
            for (Method m : one.getDeclaredMethods()) {
                c.holds(m + " has seven parameters at most", m.getParameterCount() <= 7);
                c.holds(m + " bears no name of the face", Modifier.isPublic(m.getModifiers()) || !names.contains(m.getName()));
            }
        }
    }

    private static void source() throws Exception {
        String source = Files.readString(Path.of(System.getProperty("onlytwo.source")), StandardCharsets.UTF_8);
        c.holds("plain signs alone", source.chars().allMatch(s -> s == '\n' || s >= 32 && s <= 126));
        String code = source.replaceAll("(?s)/\\*.*?\\*/", "").replaceAll("//[^\n]*", "");
        for (String word : List.of("throw", "throws", "try", "catch", "synchronized", "assert", "package", "System.out",
            "Exact", "equals", "hashCode", "toString", "null", "Object", "record", "var", "Random", "Thread", "volatile")) {
            c.holds("no '" + word + "'", !Pattern.compile("\\b" + Pattern.quote(word) + "\\b").matcher(code).find());
        }
        c.holds("no lambda, no method reference", !code.contains("->") && !code.contains("::"));
        Matcher imports = Pattern.compile("import ([^;]*);").matcher(code);
        while (imports.find()) {
            c.holds("import " + imports.group(1), imports.group(1).equals("java.util.Arrays"));
        }
        Matcher calls = Pattern.compile("\\b([A-Z][A-Za-z]*\\.[a-zA-Z]+)\\(").matcher(code);
        List<String> library = List.of("Math.abs", "Math.max", "Math.min", "Integer.bitCount", "Arrays.fill", "System.arraycopy");
        while (calls.find()) {
            c.holds(calls.group(1) + " is of the library", library.contains(calls.group(1)));
        }
    }
}
