import java.io.IOException;
import java.lang.reflect.Constructor;
import java.lang.reflect.Field;
import java.lang.reflect.Method;
import java.lang.reflect.Modifier;
import java.nio.charset.StandardCharsets;
import java.nio.file.Files;
import java.nio.file.Path;
import java.util.Arrays;
import java.util.Map;
import java.util.Set;
import java.util.TreeMap;
import java.util.TreeSet;
import java.util.regex.Matcher;
import java.util.regex.Pattern;

/** The public face as the document has it, and what LANGUAGE.md forbids as far as the source shows it. */
public final class LanguageTests {
    private static final String SOURCE = "src/main/java/PackedCase.java";
    private static final String[] FACE = {
        "int type(long, int)", "int clear()", "int journey()", "int thing(int, int)", "int goes(int, int)",
        "int day(int, int)", "int tune(int, int)", "int packs(int)", "int live(int, int, int, int)", "int now(int)",
        "int serves(int, int)", "int plan(int, int, int, int)", "int odds(int)", "int least(int, int)",
        "int needless(int, int, int)", "int buy(int, int, int)", "int desk(int, int)", "int pack(int, int, int)",
        "int allGo(int)", "int again(int)", "int list(int, int)", "int span(int)", "int use(int, int)", "int keep(int)",
        "int back(int)", "int count(int)", "long trace()"};
    private static final String[] CONSTANTS = {"BAD", "STATE", "FULL", "NONE", "NO"};
    private static int wrong = 0;

    private static void must(boolean right, String what) {
        if (!right) {
            wrong++;
            System.out.println(what);
        }
    }

    private static String signature(Method m) {
        StringBuilder s = new StringBuilder(m.getReturnType() + " " + m.getName() + "(");
        for (Class<?> type : m.getParameterTypes()) {
            s.append(s.charAt(s.length() - 1) == '(' ? "" : ", ").append(type);
        }
        return s.append(")").toString();
    }

    private static void face() {
        Class<?> c = PackedCase.class;
        must(Modifier.isPublic(c.getModifiers()) && Modifier.isFinal(c.getModifiers()), "the class is public and final");
        Set<String> found = new TreeSet<>();
        for (Method m : c.getDeclaredMethods()) {
            if (Modifier.isPublic(m.getModifiers())) {
                found.add(signature(m));
                must(!Modifier.isStatic(m.getModifiers()), "static: " + m);
            } else {
                must(Modifier.isPrivate(m.getModifiers()), "neither public nor private: " + m);
            }
        }
        must(found.equals(new TreeSet<>(Arrays.asList(FACE))), "the face is " + found);
        Set<String> constants = new TreeSet<>();
        for (Field f : c.getDeclaredFields()) {
            boolean isPublic = Modifier.isPublic(f.getModifiers());
            must(isPublic || Modifier.isPrivate(f.getModifiers()), "neither public nor private: " + f);
            if (isPublic) {
                constants.add(f.getName());
                must(f.toString().startsWith("public static final int "), "no constant: " + f);
            }
        }
        must(constants.equals(new TreeSet<>(Arrays.asList(CONSTANTS))), "the constants are " + constants);
        Constructor<?>[] all = c.getDeclaredConstructors();
        must(all.length == 1 && all[0].getParameterCount() == 0 && Modifier.isPublic(all[0].getModifiers()), "constructors");
    }

    private static void classesInside() {
        Class<?>[] inside = PackedCase.class.getDeclaredClasses();
        must(inside.length < 12, "more than twelve classes");
        Set<String> names = new TreeSet<>();
        for (String one : FACE) {
            names.add(one.substring(one.indexOf(' ') + 1, one.indexOf('(')));
        }
        for (Class<?> c : inside) {
            must(Modifier.isStatic(c.getModifiers()), "not static: " + c);
            must(!Modifier.isPublic(c.getModifiers()) && !Modifier.isProtected(c.getModifiers()), "visible: " + c);
            int fields = 0;
            for (Field f : c.getDeclaredFields()) {
                boolean isStatic = Modifier.isStatic(f.getModifiers());
                must(!isStatic || Modifier.isFinal(f.getModifiers()), "static and not final: " + f);
                fields += isStatic ? 0 : 1;
            }
            must(fields <= 20, "more than twenty fields: " + c);
            for (Method m : c.getDeclaredMethods()) {
                must(m.getParameterCount() <= 7, "more than seven parameters: " + m);
                must(!Modifier.isPrivate(m.getModifiers()) || !names.contains(m.getName()), "a public one's name: " + m);
            }
        }
    }

    private static void source() throws IOException {
        byte[] bytes = Files.readAllBytes(Path.of(SOURCE));
        for (byte b : bytes) {
            must(b == '\n' || b >= 32 && b < 127, "a sign beyond 32 .. 126: " + b);
        }
        String text = new String(bytes, StandardCharsets.US_ASCII).replaceAll("(?s)/\\*.*?\\*/|//[^\n]*", "");
        String[] forbidden = {"throw", "throws", "try", "catch", "finally", "synchronized", "assert", "volatile", "native",
            "Object", "Exception", "System\\.(?!arraycopy)", "MAX_VALUE", "MIN_VALUE", "->", "::", "Exact", "HashMap",
            "String\\.", "@", "protected", "hashCode", "equals", "toString", "var", "float", "double", "transient"};
        for (String one : forbidden) {
            String pattern = Character.isLetter(one.charAt(0)) && Character.isLetter(one.charAt(one.length() - 1))
                ? "\\b" + one + "\\b" : one;
            Matcher m = Pattern.compile(pattern).matcher(text);
            must(!m.find(), "forbidden: " + one);
        }
        Map<String, Integer> allowed = new TreeMap<>();
        Matcher calls = Pattern.compile("\\b(Integer|Long|Math|Arrays|System|List)\\.(\\w+)").matcher(text);
        while (calls.find()) {
            allowed.merge(calls.group(), 1, Integer::sum);
        }
        allowed.keySet().removeAll(Set.of("Integer.bitCount", "Math.max", "Math.min", "Arrays.fill", "System.arraycopy"));
        must(allowed.isEmpty(), "not yet looked up in LANGUAGE.md: " + allowed.keySet());
        must(text.startsWith("import java.util.Arrays;"), "no package line, one import");
    }

    private static void methodLengths() throws IOException {
        int start = 0;
        int line = 0;
        for (String one : Files.readAllLines(Path.of(SOURCE))) {
            line++;
            if (one.matches(" {4}( {4})?[a-z].*\\) \\{")) {
                start = line;
            }
            if (one.matches(" {4}( {4})?\\}") && start > 0) {
                must(line - start <= 60, "a method of more than sixty lines ends in line " + line);
                start = 0;
            }
        }
    }

    public static void main(String[] args) throws IOException {
        face();
        classesInside();
        source();
        methodLengths();
        System.out.println("language: " + wrong + " wrong");
        if (wrong != 0) {
            System.exit(1);
        }
    }
}
