import java.lang.reflect.Field;
import java.lang.reflect.Method;
import java.lang.reflect.Modifier;
import java.nio.file.Files;
import java.nio.file.Path;
import java.util.ArrayList;
import java.util.Arrays;
import java.util.List;
import java.util.Set;
import java.util.TreeSet;
import java.util.regex.Matcher;
import java.util.regex.Pattern;

/** The public face is the document's, and the source keeps to those rules of LANGUAGE.md that can be looked up. */
public final class FaceTest {
    private static final String FACE = "feed(int,int,int,int,int) room(int) fault(int) rose(int,int) tenant(int,int) night(int) nights(int,int) "
        + "let(int) turn(int) temper(int) undo(int) judge(int,int) perform(int) season(int,int) lies(int,int) round(int,int) stays() stayBy(int) "
        + "out() outBy(int) forces() minds() soonest(int) way(int,int) toFace() walls() parents(int,int,int) orphans(int,int) still(int,int) "
        + "rows(int,int) seen(int) seenBy(int,int) whose(int) tempers(int,int) attempt(int,int) chance(int,int) gone(int) best(int) "
        + "numbers(int,int,int) lists(int,int) image(int) restore(int) count(int)";
    private static final Check check = new Check();

    private static String told(Method m) {
        List<String> types = new ArrayList<>();
        for (Class<?> type : m.getParameterTypes()) {
            types.add(type.getName());
        }
        return m.getName() + "(" + String.join(",", types) + ")";
    }

    private static void face() {
        Set<String> due = new TreeSet<>(Arrays.asList(FACE.split(" ")));
        due.add("write(int,int,long)");
        Set<String> got = new TreeSet<>();
        for (Method m : RoseWall.class.getDeclaredMethods()) {
            if (!Modifier.isPrivate(m.getModifiers())) {
                got.add(told(m));
                check.due(told(m) + " is public", Modifier.isPublic(m.getModifiers()) && !Modifier.isStatic(m.getModifiers()) ? 1 : 0, 1);
                check.due(told(m) + " answers as told", m.getReturnType() == (m.getName().equals("write") ? long.class : int.class) ? 1 : 0, 1);
            }
        }
        check.due("the face: " + got, got.equals(due) ? 1 : 0, 1);
        check.due("45 of the document, less the constructor", got.size(), 44);
        check.due("one constructor", RoseWall.class.getDeclaredConstructors().length, 1);
        check.due("it is final", Modifier.isFinal(RoseWall.class.getModifiers()) ? 1 : 0, 1);
        for (Field f : RoseWall.class.getDeclaredFields()) {
            check.due("field " + f.getName(), Modifier.isPrivate(f.getModifiers()) || f.getName().equals("NONE") ? 1 : 0, 1);
        }
    }

    private static void classes() {
        Set<String> open = new TreeSet<>();
        for (Method m : RoseWall.class.getMethods()) {
            open.add(m.getName());
        }
        List<Class<?>> all = new ArrayList<>(Arrays.asList(RoseWall.class.getDeclaredClasses()));
        check.due("twelve classes at most", all.size() + 1 <= 12 ? 1 : 0, 1);
        for (Class<?> inside : all) {
            check.due(inside + " is static", Modifier.isStatic(inside.getModifiers()) ? 1 : 0, 1);
        }
        all.add(RoseWall.class);
        for (Class<?> type : all) {
            int fields = 0;
            for (Field f : type.getDeclaredFields()) {
                boolean isStatic = Modifier.isStatic(f.getModifiers());
                fields += isStatic ? 0 : 1;
                check.due(f + ", if static, is final", !isStatic || Modifier.isFinal(f.getModifiers()) ? 1 : 0, 1);
            }
            check.due(type + " has twenty fields at most", fields <= 20 ? 1 : 0, 1);
            for (Method m : type.getDeclaredMethods()) {
                check.due(m + " bears no public name", Modifier.isPublic(m.getModifiers()) || !open.contains(m.getName()) ? 1 : 0, 1);
                check.due(m + " takes seven at most", m.getParameterCount() <= 7 ? 1 : 0, 1);
            }
        }
    }

    private static void never(String source, String pattern) {
        Matcher m = Pattern.compile(pattern).matcher(source);
        check.due("never " + pattern + (m.find() ? ": " + m.group() : ""), m.reset().find() ? 1 : 0, 0);
    }

    private static void source() throws java.io.IOException {
        String source = Files.readString(Path.of("src/main/java/RoseWall.java"));
        String code = source.replaceAll("(?s)/\\*.*?\\*/", "").replaceAll("//[^\n]*", "").replaceAll("\"(\\\\.|[^\"\\\\])*\"", "\"\"");
        String[] patterns = {"\\b(throw|throws|try|catch|finally|synchronized|assert|package|native|volatile|protected)\\b", "->", "::",
            "\\+\\s*\"", "\"\\s*\\+", "\\+=\\s*\"", "\\b\\w+Exact\\b", "\\bSystem\\.(?!arraycopy)", "\\bArrays\\.(?!fill|copyOf)",
            "\\bString\\s*\\[", "static\\s*\\{", "\\bimport (?!java\\.util\\.Arrays;)", "\\b(Object|Map|Set|Random|Thread|Long\\.valueOf)\\b",
            "while\\s*\\(\\s*true", "for\\s*\\(\\s*;\\s*;", "\\b(toString|hashCode|getClass)\\b"};
        for (String pattern : patterns) {
            never(code, pattern);
        }
        check.due("signs 10 and 32 to 126 alone", source.chars().allMatch(c -> c == 10 || c >= 32 && c <= 126) ? 1 : 0, 1);
        lengths(code);
    }

    /** A method begins with a line at depth one or two of braces that ends with ") {". */
    private static void lengths(String code) {
        String name = "";
        int from = 0;
        String[] lines = code.split("\n");
        for (int i = 0; i < lines.length; i++) {
            if (lines[i].matches(" {4}( {4})?[\\w\\[\\] ]+\\(.*\\) \\{") && !lines[i].matches("\\s+(if|for|while|switch|else).*")) {
                name = lines[i].trim();
                from = i;
            }
            if (lines[i].matches(" {4}( {4})?\\}") && !name.isEmpty()) {
                check.due(name + " has sixty lines at most", i - from <= 60 ? 1 : 0, 1);
                name = "";
            }
        }
    }

    public static void main(String[] args) throws java.io.IOException {
        face();
        classes();
        source();
        check.end();
    }
}
