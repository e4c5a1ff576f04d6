import java.io.ByteArrayOutputStream;
import java.io.IOException;
import java.io.InputStream;
import java.io.OutputStream;
import java.io.StringWriter;
import java.lang.reflect.InvocationTargetException;
import java.net.URI;
import java.nio.file.Files;
import java.nio.file.Path;
import java.util.ArrayList;
import java.util.HashMap;
import java.util.List;
import java.util.Map;
import java.util.Set;
import java.util.TreeSet;
import java.util.stream.Collectors;
import javax.tools.FileObject;
import javax.tools.ForwardingJavaFileManager;
import javax.tools.JavaCompiler;
import javax.tools.JavaFileManager;
import javax.tools.JavaFileObject;
import javax.tools.SimpleJavaFileObject;
import javax.tools.StandardJavaFileManager;
import javax.tools.ToolProvider;

/**
 * Breaks the program in the ways that src/test/mutants.txt tells, one at a time: the test of the sentence that is
 * broken must find it. Each sentence of EdgeTest has at least one such way.
 */
public final class MutantTest {
    private static final JavaCompiler COMPILER = ToolProvider.getSystemJavaCompiler();
    // A file manager serves one thread at a time, and is dear to make.
    private static final ThreadLocal<StandardJavaFileManager> FILES =
        ThreadLocal.withInitial(() -> COMPILER.getStandardFileManager(null, null, null));

    private MutantTest() {
    }

    public static void main(String[] args) throws IOException {
        String program = Files.readString(Path.of("src/main/java/ChessWire.java"));
        List<Mutant> mutants = Mutant.readAll(Files.readAllLines(Path.of("src/test/mutants.txt")));
        sentencesAreTheSame(mutants);
        for (String wrong : mutants.parallelStream().map(mutant -> whatIsWrong(mutant, program))
                .filter(wrong -> !wrong.isEmpty()).collect(Collectors.toList())) {
            Check.that(wrong, false);
        }
        System.out.println("MutantTest broke the program in " + mutants.size() + " ways");
        Check.end("MutantTest");
    }

    private static void sentencesAreTheSame(List<Mutant> mutants) {
        Set<String> broken = new TreeSet<>();
        for (Mutant mutant : mutants) {
            broken.add(mutant.sentence);
        }
        for (String sentence : EdgeTest.sentences()) {
            Check.that("a way to break: " + sentence, broken.remove(sentence));
        }
        Check.that("no sentences of EdgeTest: " + broken, broken.isEmpty());
    }

    /** Nothing, where the test of the sentence finds the mutant, and holds without it. */
    private static String whatIsWrong(Mutant mutant, String program) {
        String broken = mutant.breakIn(program);
        if (broken.isEmpty()) {
            return mutant + " no longer stands in the program";
        }
        Shelf shelf = new Shelf(FILES.get());
        StringWriter said = new StringWriter();
        boolean compiles = COMPILER.getTask(said, shelf, null, List.of("-proc:none", "-nowarn"), null,
            List.of(new Source(broken))).call();
        if (!compiles) {
            return mutant + " does not compile: " + said;
        }
        return holds(shelf.classes, mutant.sentence) ? mutant + " is not found" : "";
    }

    private static boolean holds(Map<String, ByteArrayOutputStream> classes, String sentence) {
        try {
            Class<?> test = new Loader(classes).loadClass("EdgeTest");
            return (boolean) test.getMethod("holds", String.class).invoke(null, sentence);
        } catch (InvocationTargetException thrown) {
            return false;
        } catch (ReflectiveOperationException impossible) {
            throw new IllegalStateException(impossible);
        }
    }

    /** One way to break one sentence. */
    private static final class Mutant {
        private final String sentence;
        private final String anchor;
        private final String before;
        private final String after;

        private Mutant(String sentence, String anchor, String before, String after) {
            this.sentence = sentence;
            this.anchor = anchor;
            this.before = before;
            this.after = after;
        }

        static List<Mutant> readAll(List<String> lines) {
            List<Mutant> all = new ArrayList<>();
            String sentence = "";
            String anchor = "";
            String before = "";
            for (String line : lines) {
                String told = line.length() > 2 ? line.substring(2) : "";
                switch (line.isEmpty() ? '#' : line.charAt(0)) {
                    case '=': sentence = told; break;
                    case '@': anchor = told; break;
                    case '-': before = told; break;
                    case '+': all.add(new Mutant(sentence, anchor, before, told)); break;
                    default: break;
                }
            }
            return all;
        }

        /** The program so broken, or nothing, if it has no such place. */
        String breakIn(String program) {
            int from = program.indexOf(anchor);
            int place = from < 0 ? -1 : program.indexOf(before, from);
            return place < 0 || before.equals(after) ? ""
                : program.substring(0, place) + after + program.substring(place + before.length());
        }

        @Override
        public String toString() {
            return "'" + after + "' for '" + before + "' behind '" + anchor + "' (" + sentence + ")";
        }
    }

    private static final class Source extends SimpleJavaFileObject {
        private final String text;

        Source(String text) {
            super(URI.create("string:///ChessWire.java"), Kind.SOURCE);
            this.text = text;
        }

        @Override
        public CharSequence getCharContent(boolean ignored) {
            return text;
        }
    }

    /** Keeps what is compiled as bytes. */
    private static final class Shelf extends ForwardingJavaFileManager<StandardJavaFileManager> {
        private final Map<String, ByteArrayOutputStream> classes = new HashMap<>();

        Shelf(StandardJavaFileManager files) {
            super(files);
        }

        @Override
        public JavaFileObject getJavaFileForOutput(JavaFileManager.Location where, String name,
                JavaFileObject.Kind kind, FileObject sibling) {
            ByteArrayOutputStream bytes = new ByteArrayOutputStream();
            classes.put(name, bytes);
            return new SimpleJavaFileObject(URI.create("bytes:///" + name), kind) {
                @Override
                public OutputStream openOutputStream() {
                    return bytes;
                }
            };
        }
    }

    /** The broken program, and the tests once more for it alone. */
    private static final class Loader extends ClassLoader {
        private final Map<String, ByteArrayOutputStream> classes;

        Loader(Map<String, ByteArrayOutputStream> classes) {
            super(ClassLoader.getPlatformClassLoader());
            this.classes = classes;
        }

        @Override
        protected Class<?> findClass(String name) throws ClassNotFoundException {
            byte[] bytes = classes.containsKey(name) ? classes.get(name).toByteArray() : bytesOfTest(name);
            return defineClass(name, bytes, 0, bytes.length);
        }

        private static byte[] bytesOfTest(String name) throws ClassNotFoundException {
            try (InputStream in = MutantTest.class.getResourceAsStream(name + ".class")) {
                if (in == null) {
                    throw new ClassNotFoundException(name);
                }
                return in.readAllBytes();
            } catch (IOException unread) {
                throw new ClassNotFoundException(name, unread);
            }
        }
    }
}
