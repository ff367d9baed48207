import java.io.IOException;
import java.lang.reflect.Method;
import java.nio.file.Files;
import java.nio.file.Path;
import java.util.List;
import java.util.Set;
import java.util.TreeSet;
import java.util.regex.Matcher;
import java.util.regex.Pattern;
import java.util.stream.Stream;

/** README.md tells each call of the face, and its run of calls answers what it says there (promises 1 to 21). */
public final class ReadmeTest {
    private static final Pattern CALL = Pattern.compile("game\\.(\\w+)\\((.*)\\);(?:\\s*// ([^: ]+).*)?");

    private final DroppedPieces game = new DroppedPieces();
    private final Set<String> called = new TreeSet<>();

    public static void main(String[] args) throws IOException {
        List<String> lines = Files.readAllLines(Path.of("README.md"));
        new ReadmeTest().run(lines);
        Stream.of(DroppedPieces.class.getDeclaredMethods()).map(Method::getName).filter(ReadmeTest::isOfTheFace)
                .forEach(name -> Check.yes("README.md tells " + name,
                        lines.stream().anyMatch(line -> line.startsWith("| `" + name + "("))));
        Check.yes("README.md tells how to run the tests", lines.contains(".ci/run"));
        Check.end();
    }

    private static boolean isOfTheFace(String name) {
        return Stream.of(DroppedPieces.class.getMethods())
                .anyMatch(m -> m.getDeclaringClass() == DroppedPieces.class && m.getName().equals(name));
    }

    private void run(List<String> lines) {
        for (String line : lines) {
            Matcher call = CALL.matcher(line);
            if (call.matches()) {
                String due = call.group(3) == null ? Call.NOTHING : call.group(3);
                Check.same("README.md: " + line, Call.answer(game, call.group(1), numbers(call.group(2))), due);
                called.add(call.group(1));
            }
        }
        Check.yes("README.md calls " + called, called.containsAll(Set.of(
                "clear", "put", "give", "start", "play", "back", "moves", "result", "count", "mate")));
    }

    private static int[] numbers(String arguments) {
        return arguments.isEmpty() ? new int[0]
                : Stream.of(arguments.split(",")).mapToInt(ReadmeTest::sum).toArray();
    }

    /** A sum of products, as moves are written. */
    private static int sum(String text) {
        return Stream.of(text.split("\\+")).mapToInt(part ->
                Stream.of(part.split("\\*")).mapToInt(n -> Integer.parseInt(n.trim())).reduce(1, (a, b) -> a * b)).sum();
    }
}
