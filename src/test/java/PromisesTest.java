import java.io.IOException;
import java.nio.file.Files;
import java.nio.file.Path;
import java.util.List;
import java.util.Set;
import java.util.TreeSet;
import java.util.regex.Matcher;
import java.util.regex.Pattern;
import java.util.stream.Stream;

/**
 * Each of the 49 promises has a test of its edges that names it, and what such a test says that it holds stands in the
 * document, word by word. The folder of the tests is the property "tests", the document the property "doc".
 */
public final class PromisesTest {
    private static final Pattern HOLDS =
        Pattern.compile("Check\\.holds\\((\\d+), ((?:\"(?:[^\"\\\\]|\\\\.)*\"[\\s+]*)+)\\);");
    private static final Pattern TEXT = Pattern.compile("\"((?:[^\"\\\\]|\\\\.)*)\"");
    private static final int PROMISES = 49;

    public static void main(String[] args) throws IOException {
        Path tests = Path.of(System.getProperty("tests", "src/test/java"));
        Path doc = Path.of(System.getProperty("doc", "../shared/DOC.md"));
        String told = Files.exists(doc) ? plain(Files.readString(doc)) : null;
        Set<Integer> held = new TreeSet<>();
        List<Path> files;
        try (Stream<Path> found = Files.list(tests)) {
            files = found.filter(file -> file.getFileName().toString().matches("Edge\\w+Test\\.java")).sorted().toList();
        }
        for (Path file : files) {
            Matcher holds = HOLDS.matcher(Files.readString(file));
            while (holds.find()) {
                held.add(Integer.parseInt(holds.group(1)));
                String sentence = joined(holds.group(2));
                if (told != null) {
                    Check.due(file.getFileName() + ": the document says '" + sentence + "'", told.contains(plain(sentence)),
                        true);
                }
            }
        }
        for (int promise = 1; promise <= PROMISES; promise++) {
            Check.due("promise " + promise + " has a test of its edges", held.contains(promise), true);
        }
        Check.finish("PromisesTest");
    }

    private static String joined(String pieces) {
        StringBuilder text = new StringBuilder();
        Matcher piece = TEXT.matcher(pieces);
        while (piece.find()) {
            text.append(piece.group(1).replace("\\\"", "\""));
        }
        return text.toString();
    }

    private static String plain(String text) {
        return text.replaceAll("\\s+", " ").trim();
    }
}
