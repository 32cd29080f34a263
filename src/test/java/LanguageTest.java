import java.lang.reflect.Field;
import java.lang.reflect.Method;
import java.lang.reflect.Modifier;
import java.nio.file.Files;
import java.nio.file.Path;
import java.util.ArrayList;
import java.util.Arrays;
import java.util.List;
import java.util.TreeSet;
import java.util.regex.Matcher;
import java.util.regex.Pattern;

/** What LANGUAGE.md asks of the source, as far as it can be seen without reading it. */
public final class LanguageTest {
    private static final Path SOURCE = Path.of("src/main/java/WaterTown.java");
    private static final Due due = new Due();

    public static void main(String[] args) throws Exception {
        face();
        insides();
        words();
        methodLengths();
        due.end();
    }

    /** Rule 1. */
    private static void face() {
        due.part("rule 1");
        List<String> want = List.of("pipe(int, int, int, int)", "shut(int, boolean)", "leak(int, int)",
                "map(int, int, int)", "pump(int, int, int)", "street(int, int, int, int, int, int)", "over(int)",
                "rooms(int, int)", "count(int)", "told(int, int)", "feed(int, long)", "rule(int)", "fault()",
                "force(int, int)", "go(int)", "flow(int, int, int)", "line(int, int)", "draw(int, int, int)",
                "order(int, int)", "cuts(int, int)", "wrong()", "gauge(int, int)", "guess(int, int)", "explain(int)",
                "beds(int, int, int, int, int, int)", "river(int, int)", "share(int, int, int, int)", "gains()",
                "beside(int, int)");
        TreeSet<String> got = new TreeSet<>();
        TreeSet<String> names = new TreeSet<>();
        for (Method m : WaterTown.class.getDeclaredMethods()) {
            if (Modifier.isPrivate(m.getModifiers())) continue;
            String types = Arrays.toString(m.getParameterTypes());
            got.add(m.getName() + "(" + types.substring(1, types.length() - 1) + ")");
            names.add(m.getName());
            due.is(m.getName() + " is public", Modifier.isPublic(m.getModifiers()) ? 1 : 0, 1);
            due.is(m.getName() + " answers an int", m.getReturnType() == int.class ? 1 : 0, 1);
        }
        due.is("the methods " + got, got.equals(new TreeSet<>(want)) ? 1 : 0, 1);
        TreeSet<String> constants = new TreeSet<>();
        for (Field f : WaterTown.class.getDeclaredFields()) {
            if (!Modifier.isPrivate(f.getModifiers())) constants.add(f.getName());
        }
        due.is("the constants " + constants, constants.equals(new TreeSet<>(
                List.of("NONE", "UNKNOWN", "OUTSIDE", "NOT", "FULL"))) ? 1 : 0, 1);
        due.is("final", Modifier.isFinal(WaterTown.class.getModifiers()) ? 1 : 0, 1);
        due.is("one constructor", WaterTown.class.getDeclaredConstructors().length, 1);
        for (Class<?> c : all()) {
            for (Method m : c.getDeclaredMethods()) {
                if (c == WaterTown.class && Modifier.isPublic(m.getModifiers())) continue;
                due.is(c.getName() + "." + m.getName() + " has a name of the face", names.contains(m.getName()) ? 1 : 0, 0);
            }
        }
    }

    private static List<Class<?>> all() {
        List<Class<?>> all = new ArrayList<>(List.of(WaterTown.class.getDeclaredClasses()));
        all.add(WaterTown.class);
        return all;
    }

    /** Rules 2, 5 and 11. */
    private static void insides() {
        due.part("rules 2, 5, 11");
        due.is("classes", all().size() <= 12 ? 1 : 0, 1);
        for (Class<?> c : all()) {
            int fields = 0;
            if (c != WaterTown.class) {
                due.is(c + " is static", Modifier.isStatic(c.getModifiers()) ? 1 : 0, 1);
                due.is(c + " is not public", Modifier.isPublic(c.getModifiers()) ? 1 : 0, 0);
                due.is(c + " has none inside", c.getDeclaredClasses().length, 0);
            }
            for (Field f : c.getDeclaredFields()) {
                boolean isStatic = Modifier.isStatic(f.getModifiers());
                if (!isStatic) fields++;
                due.is(f + " is static and not final", isStatic && !Modifier.isFinal(f.getModifiers()) ? 1 : 0, 0);
            }
            due.is(c + " has fields", fields <= 20 ? 1 : 0, 1);
            for (Method m : c.getDeclaredMethods()) {
                due.is(m + " takes", m.getParameterCount() <= 7 ? 1 : 0, 1);
            }
        }
    }

    /** Rules 3, 4, 6, 10 and 13, by words that must not stand in the code. */
    private static void words() throws Exception {
        due.part("rules 3, 4, 6, 10, 13");
        String code = code();
        String[] banned = {"\\bthrow\\b", "\\bthrows\\b", "\\btry\\b", "\\bcatch\\b", "\\bsynchronized\\b", "\\bassert\\b",
            "->", "::", "Exact\\b", "\\bThread\\b", "\\bRandom\\b", "\\bSystem\\.(?!arraycopy)", "\\bprotected\\b",
            "\\bdouble\\b", "\\bfloat\\b", "\\bpackage\\b", "\\bvar\\b", "\\bgoto\\b", "\\bstatic\\s*\\{",
            "\\bObject\\b", "\\bhashCode\\b", "\\btoString\\b", "\\bString\\.", "\\bvalues\\(\\)", "\\.stream\\b",
            "\\bimport (?!java\\.util\\.(Arrays|ArrayList|List|Iterator);)", "\\bArrays\\.(?!fill|copyOf|copyOfRange)",
            "\\bInteger\\.(?!bitCount|compare|max|min)", "\\bMath\\.(?!min|max|abs|floorMod|floorDiv)"};
        for (String word : banned) {
            Matcher m = Pattern.compile(word).matcher(code);
            due.is("'" + word + "' stands in the code", m.find() ? 1 : 0, 0);
        }
        for (int k = 0; k < code.length(); k++) {
            if (code.charAt(k) > 126) due.is("sign " + (int) code.charAt(k), 1, 0);
        }
    }

    /** The source without its comments. */
    private static String code() throws Exception {
        return Files.readString(SOURCE).replaceAll("(?s)/\\*.*?\\*/", "").replaceAll("//[^\\n]*", "");
    }

    /** Rule 11: methods of some sixty lines. */
    private static void methodLengths() throws Exception {
        due.part("rule 11, lengths");
        String opening = null;
        int from = 0;
        List<String> lines = Files.readAllLines(SOURCE);
        for (int k = 0; k < lines.size(); k++) {
            String line = lines.get(k);
            Matcher m = Pattern.compile("^( {4}| {8})[a-zA-Z].*\\) \\{$").matcher(line);
            if (opening == null && m.find() && !line.contains(" class ")) {
                opening = m.group(1);
                from = k;
            } else if (opening != null && line.equals(opening + "}")) {
                due.is("the method at line " + (from + 1) + " has " + (k - from + 1) + " lines", k - from + 1 <= 60 ? 1 : 0, 1);
                opening = null;
            }
        }
    }
}
