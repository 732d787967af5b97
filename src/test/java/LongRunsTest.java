import java.nio.file.Files;
import java.nio.file.Path;
import java.util.Arrays;

/** Pieces of 60 to 99 BARS with up to ten LOOSE ones, where ModelTest's enumeration takes too long. */
public final class LongRunsTest {
    private static final Path RUNS = Path.of("src/test/runs/long.txt");

    private LongRunsTest() {
    }

    public static void main(String[] args) throws Exception {
        OneTriangle x = new OneTriangle();
        String piece = "";
        int row = 0;
        for (String line : Files.readAllLines(RUNS)) {
            row++;
            if (line.startsWith("#")) {
                continue;
            }
            if (line.startsWith("piece ")) {
                piece = line.substring("piece ".length());
                x = Check.typed(piece);
                continue;
            }
            String[] sides = line.split(" = ");
            String[] words = sides[0].split(" ");
            long got = Asked.answer(x, words[0], Arrays.copyOfRange(words, 1, words.length));
            Check.due("row " + row + ", " + piece + ": " + sides[0], got, Long.parseLong(sides[1]));
        }
        Check.close();
    }
}
