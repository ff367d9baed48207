import java.io.IOException;
import java.lang.reflect.Field;
import java.lang.reflect.Method;
import java.lang.reflect.Modifier;
import java.nio.file.Files;
import java.nio.file.Path;
import java.util.ArrayList;
import java.util.List;
import java.util.Set;
import java.util.regex.Matcher;
import java.util.regex.Pattern;
import java.util.stream.Collectors;
import java.util.stream.Stream;

/** Those rules of LANGUAGE.md that can be seen in the program's text and in its classes. */
public final class LanguageTest {
    private static final Set<String> LIBRARY = Set.of("Arrays.fill", "System.arraycopy", "Integer.bitCount");
    private static final Set<Class<?>> STATIC_TYPES = Set.of(int.class, int[].class);
    private static final int MOST_LINES = 60;

    private static List<String> lines;
    private static String text;

    public static void main(String[] args) throws IOException {
        lines = Files.readAllLines(Path.of("src/main/java/DroppedPieces.java")).stream()
                .map(line -> line.replaceAll("^\\s*/?\\*.*|//.*", "")).toList();
        text = String.join("\n", lines);
        nestedClasses();
        noOtherWords();
        library();
        staticFields();
        exceptions();
        sizes();
        objectsAreMadeOnce();
        Check.end();
    }

    private static List<Class<?>> classes() {
        List<Class<?>> all = new ArrayList<>(List.of(DroppedPieces.class.getDeclaredClasses()));
        all.add(DroppedPieces.class);
        return all;
    }

    /** Rules 1 and 2: classes inside are static and not public; no private method bears a public one's name. */
    private static void nestedClasses() {
        Set<String> face = Stream.of(DroppedPieces.class.getDeclaredMethods())
                .filter(m -> Modifier.isPublic(m.getModifiers())).map(Method::getName).collect(Collectors.toSet());
        for (Class<?> inside : DroppedPieces.class.getDeclaredClasses()) {
            Check.yes(inside + " is static", Modifier.isStatic(inside.getModifiers()));
            Check.no(inside + " is public", Modifier.isPublic(inside.getModifiers()));
        }
        for (Class<?> one : classes()) {
            for (Method m : one.getDeclaredMethods()) {
                Check.no(m + " bears a public name", !Modifier.isPublic(m.getModifiers()) && face.contains(m.getName()));
            }
        }
    }

    /** Rules 2, 6, 8, 9 and 13: what the program does without. */
    private static void noOtherWords() {
        for (String word : List.of("->", "::", "try\\b", "catch\\b", "finally\\b", "synchronized\\b", "assert\\b",
                "instanceof\\b", "var\\b", "double\\b", "float\\b", "while \\(true\\)", "for \\(;", "Thread\\b",
                "Random\\b", "hashCode\\b", "toString\\b", "package\\b", "static \\{")) {
            Check.no("the program has " + word, Pattern.compile("(?<!\\w)" + word).matcher(text).find());
        }
    }

    /** Rule 4: only what stands there. */
    private static void library() {
        Check.same("imports", lines.stream().filter(line -> line.startsWith("import")).toList().toString(),
                "[import java.util.Arrays;, import java.util.NoSuchElementException;]");
        Matcher call = Pattern.compile("\\b(Arrays|System|Integer|Long|Math|String|List)\\.\\w+").matcher(text);
        while (call.find()) {
            Check.yes(call.group() + " is in the library", LIBRARY.contains(call.group()));
        }
    }

    /** Rule 5: static fields are constants. */
    private static void staticFields() {
        for (Class<?> one : classes()) {
            for (Field f : one.getDeclaredFields()) {
                if (Modifier.isStatic(f.getModifiers())) {
                    Check.yes(f + " is final", Modifier.isFinal(f.getModifiers()));
                    Check.yes(f + " is a number or numbers", STATIC_TYPES.contains(f.getType()));
                }
            }
        }
        Check.no("static numbers are changed",
                Pattern.compile("(ROW_STEP|COLUMN_STEP|NEAR|FAR|BACK_ROW|KING_ORDER)\\[[^\\]]*\\] *[-+|&]?=[^=]")
                        .matcher(text).find());
    }

    /** Rule 6: every throw makes one of the exceptions of the face, with a written text. */
    private static void exceptions() {
        for (String line : lines) {
            if (line.contains("throw ")) {
                Check.yes(line.trim(), line.trim().matches("throw new (IllegalState|IllegalArgument|IndexOutOfBounds"
                        + "|NoSuchElement)Exception\\(\"[a-z ]+\"\\);"));
            }
        }
    }

    /** Rule 11: parameters, lines of a method, classes, fields. */
    private static void sizes() {
        Check.yes("at most twelve classes", classes().size() <= 12);
        for (Class<?> one : classes()) {
            long fields = Stream.of(one.getDeclaredFields()).filter(f -> !Modifier.isStatic(f.getModifiers())).count();
            Check.yes(one + " has at most twenty fields", fields <= 20);
            for (Method m : one.getDeclaredMethods()) {
                Check.yes(m + " has at most seven parameters", m.getParameterCount() <= 7);
            }
        }
        int begun = 0;
        for (int k = 0; k < lines.size(); k++) {
            if (lines.get(k).matches(" {4}( {4})?\\w[^=;]*\\)?.*\\{")) {
                begun = k;
            } else if (lines.get(k).matches(" {4}( {4})?\\}") && !lines.get(begun).contains(" class ")) {
                Check.yes("few lines from line " + (begun + 1), k - begun <= MOST_LINES);
            }
        }
    }

    /** Rule 12: beside exceptions, objects are made in constructors and for fields alone. */
    private static void objectsAreMadeOnce() {
        for (String line : lines) {
            if (line.contains("new ") && !line.contains("throw ")) {
                Check.yes("made once: " + line.trim(), line.trim().matches(
                        "((private )?final [\\w\\[\\]]+ )?\\w+ = new \\w+(\\[[^\\]]*\\]|\\(.*\\));"));
            }
        }
    }
}
