import java.io.IOException;
import java.lang.reflect.Method;
import java.net.URL;
import java.net.URLClassLoader;
import java.nio.file.Files;
import java.nio.file.Path;
import java.util.ArrayList;
import java.util.Comparator;
import java.util.List;
import java.util.regex.Matcher;
import java.util.regex.Pattern;
import java.util.stream.Stream;
import javax.tools.ToolProvider;

/** What README.md shows as calls and answers is compiled and run as it stands there; it names each call, code and test. */
public final class ReadmeTest {
    private static final Pattern BLOCK = Pattern.compile("(?ms)^```java\n(.*?)^```$");
    private static final Pattern SHOWN = Pattern.compile("((?:x\\.\\w+|tell)\\(.*\\));\\s+// (-?\\d+)(?:: .+)?");
    private static final int CALLS_MOST = 512;
    private static final Check check = new Check();

    /** One class of all blocks: those that begin with 'static' are its methods, the others its run, one behind the other. */
    private static String program(String page) {
        StringBuilder methods = new StringBuilder();
        StringBuilder run = new StringBuilder();
        Matcher block = BLOCK.matcher(page);
        int shown = 0;
        while (block.find()) {
            if (block.group(1).startsWith("static ")) {
                methods.append(block.group(1));
                continue;
            }
            for (String line : block.group(1).split("\n")) {
                run.append(asRun(line));
                shown += SHOWN.matcher(line).matches() ? 1 : 0;
            }
        }
        check.due("README.md shows calls", shown >= 45 ? 1 : 0, 1);
        return "public final class Shown {\n" + methods + "public static void run(java.util.List<Long> got) {\n" + run + "}\n}\n";
    }

    /** A line that shows no answer would not be looked at: it must be a comment, or make the object. */
    private static String asRun(String line) {
        Matcher shown = SHOWN.matcher(line);
        if (shown.matches()) {
            return "got.add((long) " + shown.group(1) + ");\n";
        }
        boolean plain = line.isBlank() || line.startsWith("// ") || line.equals("RoseWall x = new RoseWall();");
        check.due("a line of README.md that can be looked at: " + line, plain ? 1 : 0, 1);
        return line + "\n";
    }

    private static void examples(String page, Path work) throws Exception {
        Path source = work.resolve("Shown.java");
        Files.writeString(source, program(page));
        String path = System.getProperty("java.class.path");
        int failed = ToolProvider.getSystemJavaCompiler().run(null, null, null, "-cp", path, "-d", work.toString(), source.toString());
        check.due("README.md's examples can be compiled", failed, 0);
        if (failed != 0) {
            return;
        }
        List<Long> got = new ArrayList<>();
        try (URLClassLoader loader = new URLClassLoader(new URL[] {work.toUri().toURL()})) {
            Method run = loader.loadClass("Shown").getMethod("run", List.class);
            run.invoke(null, got);
        }
        check.due("an object is used for 512 calls at most", calls(page) <= CALLS_MOST ? 1 : 0, 1);
        compare(page, got);
    }

    private static void compare(String page, List<Long> got) {
        int i = 0;
        Matcher block = BLOCK.matcher(page);
        while (block.find()) {
            for (String line : block.group(1).split("\n")) {
                Matcher shown = SHOWN.matcher(line);
                if (shown.matches()) {
                    check.due("README.md: " + shown.group(1), got.get(i++), Long.parseLong(shown.group(2)));
                }
            }
        }
        check.due("as many answers as are shown", got.size(), i);
    }

    /** A text that is told takes a feed for each twenty bytes, and a room. */
    private static int calls(String page) {
        int calls = 0;
        Matcher shown = SHOWN.matcher(page);
        while (shown.find()) {
            calls += shown.group(1).startsWith("tell") ? shown.group(1).length() / 20 + 2 : 1;
        }
        return calls;
    }

    private static void names(String page) throws IOException {
        for (Method m : RoseWall.class.getDeclaredMethods()) {
            if (java.lang.reflect.Modifier.isPublic(m.getModifiers())) {
                String name = m.getName();
                check.due("README.md names " + name, page.contains("`" + name + "`") ? 1 : 0, 1);
                check.due("README.md shows " + name, Pattern.compile("(?m)^x\\." + name + "\\(.*; +// -?\\d").matcher(page).find() ? 1 : 0, 1);
            }
        }
        for (int code : new int[] {-2, -3, -4, -5, -6, -7, -11, -12, -31, -32, -33, -34}) {
            check.due("README.md shows " + code, Pattern.compile("(?m)^\\S.*; +// " + code + "(:.*)?$").matcher(page).find() ? 1 : 0, 1);
            check.due("README.md says what it means: " + code, code < -30 || page.contains("\n| " + code + " |") ? 1 : 0, 1);
        }
        try (Stream<Path> files = Files.list(Path.of("src/test/java"))) {
            for (Path file : files.sorted().toList()) {
                String name = file.getFileName().toString().replace(".java", "");
                check.due("README.md names " + name, page.contains("`" + name + "`") ? 1 : 0, 1);
            }
        }
        check.due("README.md says how the tests are run", page.contains("`bash .ci/run`") && Files.isExecutable(Path.of(".ci/run")) ? 1 : 0, 1);
    }

    private static void remove(Path work) throws IOException {
        try (Stream<Path> files = Files.walk(work)) {
            for (Path file : files.sorted(Comparator.reverseOrder()).toList()) {
                Files.delete(file);
            }
        }
    }

    public static void main(String[] args) throws Exception {
        String page = Files.readString(Path.of("README.md"));
        Path work = Files.createTempDirectory("readme");
        try {
            examples(page, work);
        } finally {
            remove(work);
        }
        names(page);
        check.end();
    }
}
