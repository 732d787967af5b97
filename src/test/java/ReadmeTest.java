import java.nio.file.Files;
import java.nio.file.Path;
import java.util.TreeSet;
import java.util.regex.Matcher;
import java.util.regex.Pattern;

/** What README.md shows is what the class answers, and every call is shown. */
public final class ReadmeTest {
    private static final Path README = Path.of("README.md");
    private static final Pattern PIECE = Pattern.compile("for \\(char b : \"(\\w+)\".*");
    private static final Pattern CALL = Pattern.compile("x\\.(\\w+)\\(([^)]*)\\); +// (-?\\d+).*");

    private ReadmeTest() {
    }

    public static void main(String[] args) throws Exception {
        OneTriangle x = new OneTriangle();
        TreeSet<String> seen = new TreeSet<>();
        for (String line : Files.readAllLines(README)) {
            Matcher piece = PIECE.matcher(line);
            if (piece.matches()) {
                Check.type(x, piece.group(1));
                seen.add("type");
            }
            Matcher call = CALL.matcher(line);
            if (call.matches() && Asked.isMethod(call.group(1))) {
                String[] numbers = call.group(2).isEmpty() ? new String[0] : call.group(2).split(",");
                long got = Asked.answer(x, call.group(1), numbers);
                Check.due("README: " + line, got, Long.parseLong(call.group(3)));
                seen.add(call.group(1));
            }
        }
        Check.due("README: calls shown " + seen, seen.size(), Asked.methodCount());
        Check.close();
    }
}
