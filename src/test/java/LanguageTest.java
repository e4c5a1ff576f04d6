import java.io.IOException;
import java.lang.reflect.Constructor;
import java.lang.reflect.Field;
import java.lang.reflect.Method;
import java.lang.reflect.Modifier;
import java.nio.file.Files;
import java.nio.file.Path;
import java.util.HashSet;
import java.util.Set;
import java.util.TreeSet;
import java.util.regex.Matcher;
import java.util.regex.Pattern;

/** The face of the document, and those rules of LANGUAGE.md that can be seen from outside or from single lines. */
public final class LanguageTest {
    private static final String FACE = "type(int,int) wipe(int) fault(int) square(int) side() moves(int) lawful(int) "
        + "state() play(int) read(int) home() shortest(int,int) all() means(int) could(int) weight(int,int) table(int) "
        + "answer(int,int) gain(int,int,int,int):long ahead(int,int,int,int) played(int) move(int) purse(int) "
        + "readings() reading(int,int) sheet(int,int,int) lose(int) lay(int,int,int,int) get(int,int,int) "
        + "copy(int,int,int,int,int) write(int) count(int) digest():long";
    private static final String[] NEVER = {"throw", "throws", "try", "catch", "synchronized", "assert", "protected",
        "Object", "Random", "System\\.(?!arraycopy)", "Thread", "Exact", "hashCode", "toString", "->", "::", "double",
        "float", "native", "volatile", "yield", "var", "instanceof"};

    private LanguageTest() {
    }

    public static void main(String[] args) throws IOException {
        face();
        fieldsAndClasses();
        source(Files.readString(Path.of("src/main/java/ChessWire.java")));
        Check.end("LanguageTest");
    }

    private static void face() {
        Set<String> due = new TreeSet<>(Set.of(FACE.split(" ")));
        Set<String> got = new TreeSet<>();
        Set<String> names = new HashSet<>();
        for (Method method : ChessWire.class.getDeclaredMethods()) {
            if (Modifier.isPublic(method.getModifiers())) {
                StringBuilder shape = new StringBuilder();
                for (Class<?> type : method.getParameterTypes()) {
                    shape.append(shape.length() > 0 ? "," : "").append(type);
                }
                String type = method.getReturnType() == int.class ? "" : ":" + method.getReturnType();
                got.add(method.getName() + "(" + shape + ")" + type);
                names.add(method.getName());
            } else {
                Check.that(method + " is private", Modifier.isPrivate(method.getModifiers()));
            }
        }
        Check.that("the face is " + got, got.equals(due));
        for (Method method : ChessWire.class.getDeclaredMethods()) {
            Check.that(method + " bears no public name",
                Modifier.isPublic(method.getModifiers()) || !names.contains(method.getName()));
        }
        Constructor<?>[] constructors = ChessWire.class.getDeclaredConstructors();
        Check.that("one public constructor", constructors.length == 1
            && Modifier.isPublic(constructors[0].getModifiers()) && constructors[0].getParameterCount() == 0);
        Check.that("final", Modifier.isFinal(ChessWire.class.getModifiers()));
    }

    private static void fieldsAndClasses() {
        Set<String> open = new TreeSet<>();
        for (Field field : ChessWire.class.getDeclaredFields()) {
            if (!Modifier.isPrivate(field.getModifiers())) {
                open.add(field.getName());
            }
        }
        Check.that("open fields " + open, open.equals(Set.of("NONE", "BAD", "NOT", "FULL")));
        Class<?>[] inside = ChessWire.class.getDeclaredClasses();
        Check.that("some twelve classes", inside.length <= 12);
        for (Class<?> one : inside) {
            Check.that(one + " is static", Modifier.isStatic(one.getModifiers()));
            int fields = 0;
            for (Field field : one.getDeclaredFields()) {
                boolean constant = Modifier.isStatic(field.getModifiers());
                Check.that(field + " is final", !constant || Modifier.isFinal(field.getModifiers()));
                fields += constant ? 0 : 1;
            }
            Check.that("some twenty fields", fields <= 20);
            for (Method method : one.getDeclaredMethods()) {
                Check.that("seven parameters", method.getParameterCount() <= 7);
            }
        }
    }

    private static void source(String text) {
        String code = text.replaceAll("(?s)/\\*.*?\\*/", "").replaceAll("//[^\n]*", "");
        for (String word : NEVER) {
            String bounds = Character.isLetter(word.charAt(0)) ? "\\b" + word : word;
            Matcher found = Pattern.compile(bounds + (word.endsWith(")") || !bounds.startsWith("\\b") ? "" : "\\b"))
                .matcher(code);
            Check.that("'" + word + "' stands in the program", !found.find());
        }
        Check.that("one import at most", code.split("\nimport ", -1).length <= 2);
        Check.that("plain signs", text.chars().allMatch(c -> c == '\n' || c >= 32 && c < 127));
        methodsAreShort(text);
    }

    private static void methodsAreShort(String text) {
        String[] lines = text.split("\n");
        int start = 0;
        for (int i = 0; i < lines.length; i++) {
            if (lines[i].matches(" {4,8}[\\w\\[\\] ]+\\(.*\\) \\{")) {
                start = i;
            }
            if (lines[i].matches(" {4,8}\\}")) {
                Check.that("the method in line " + (start + 1) + " is short",
                    i - start <= 60 || lines[i].equals("    }") && lines[start].startsWith("        "));
            }
        }
    }
}
