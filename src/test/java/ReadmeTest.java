import java.io.File;
import java.io.IOException;
import java.lang.reflect.Method;
import java.lang.reflect.Modifier;
import java.net.URL;
import java.net.URLClassLoader;
import java.nio.file.Files;
import java.nio.file.Path;
import java.util.Comparator;
import java.util.LinkedHashMap;
import java.util.List;
import java.util.Map;
import java.util.regex.Matcher;
import java.util.regex.Pattern;
import java.util.stream.Collectors;
import java.util.stream.Stream;
import javax.tools.ToolProvider;

/** What README.md shows must be so: its lines of Java are run, and each call must answer what stands behind it. */
public final class ReadmeTest {
    private static final Pattern BLOCK = Pattern.compile("```java\n(.*?)```", Pattern.DOTALL);
    private static final Pattern CALL = Pattern.compile("(wire\\.\\w+\\(.*\\)); *// (-?\\d+|'.'): .*");

    private ReadmeTest() {
    }

    public static void main(String[] args) throws IOException, ReflectiveOperationException {
        String readme = Files.readString(Path.of("README.md"));
        noCallIsLeftOut(readme);
        Path room = Files.createTempDirectory("readme");
        try {
            run(room, programOf(readme));
        } finally {
            empty(room);
        }
        Check.end("ReadmeTest");
    }

    private static void noCallIsLeftOut(String readme) {
        for (Method method : ChessWire.class.getDeclaredMethods()) {
            if (Modifier.isPublic(method.getModifiers())) {
                Check.that("README.md names " + method.getName(), readme.contains("`" + method.getName() + "`"));
            }
        }
        String[] tests = new File("src/test/java").list((place, name) -> name.endsWith("Test.java"));
        for (String test : tests) {
            Check.that("README.md names " + test, readme.contains("`" + test.replace(".java", "`")));
        }
    }

    /** The first block tells a method, the second one what is done with it. */
    private static String programOf(String readme) {
        List<String> blocks = BLOCK.matcher(readme).results().map(found -> found.group(1)).collect(Collectors.toList());
        Check.same("blocks of Java", blocks.size(), 2);
        StringBuilder lines = new StringBuilder();
        int calls = 0;
        for (String line : blocks.get(1).split("\n")) {
            Matcher call = CALL.matcher(line);
            if (call.matches()) {
                calls++;
                lines.append(shown(calls, call.group(1), call.group(2)));
            } else {
                Check.that("README.md tells what is answered: " + line, !line.startsWith("wire."));
                lines.append(line).append('\n');
            }
        }
        Check.that("README.md shows calls", calls > 20);
        return "public final class Shown {\n" + blocks.get(0)
            + "public static void show(java.util.Map<String, long[]> shown) {\n" + lines + "}\n}\n";
    }

    private static String shown(int number, String call, String due) {
        return "shown.put(\"call " + number + ", " + call + "\", new long[] {" + call + ", " + due + "});\n";
    }

    private static void run(Path room, String program) throws IOException, ReflectiveOperationException {
        Path file = Files.writeString(room.resolve("Shown.java"), program);
        int refused = ToolProvider.getSystemJavaCompiler().run(null, null, null, "-proc:none", "-cp",
            System.getProperty("java.class.path"), "-d", room.toString(), file.toString());
        Check.same("README.md compiles: faults", refused, 0);
        if (refused > 0) {
            return;
        }
        Map<String, long[]> shown = new LinkedHashMap<>();
        URL[] place = {room.toUri().toURL()};
        try (URLClassLoader loader = new URLClassLoader(place, ReadmeTest.class.getClassLoader())) {
            loader.loadClass("Shown").getMethod("show", Map.class).invoke(null, shown);
        }
        for (String call : shown.keySet()) {
            Check.same("README.md, " + call, shown.get(call)[0], shown.get(call)[1]);
        }
    }

    private static void empty(Path room) throws IOException {
        try (Stream<Path> files = Files.walk(room)) {
            for (Path file : files.sorted(Comparator.reverseOrder()).collect(Collectors.toList())) {
                Files.delete(file);
            }
        }
    }
}
