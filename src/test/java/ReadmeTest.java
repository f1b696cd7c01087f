import java.io.IOException;
import java.nio.file.Files;
import java.nio.file.Path;
import java.util.regex.Matcher;
import java.util.regex.Pattern;

/**
 * The example of README.md answers as README.md says: its blocks, one behind another, become a class whose every call
 * of the sky is compared with the answer that stands behind it. And all that is inside the class is told there.
 */
public final class ReadmeTest {
    private static final Pattern CALL = Pattern.compile("sky\\.(\\w+)\\(.*\\);(.*)");
    private static final Pattern ANSWER = Pattern.compile(" +// (\\w+|-\\d+|throws \\w+): .+");
    private static final String NOTHING = "nothing";

    private static final StringBuilder members = new StringBuilder();
    private static final StringBuilder body = new StringBuilder();
    private static int answers;

    public static void main(String[] args) throws IOException, InterruptedException {
        for (String block : Readme.blocks("java")) {
            if (block.startsWith("static ")) {
                members.append(block);
            } else {
                block.lines().forEach(ReadmeTest::take);
            }
        }
        Check.due("answers are told", answers > 20, true);
        Check.due("the example as a class ends with", run(example()), 0);
        for (Class<?> inside : PinnedSky.class.getDeclaredClasses()) {
            String name = "`" + inside.getSimpleName() + "`";
            Check.due("README.md tells of " + name, Readme.text().contains(name), true);
        }
        Check.finish("ReadmeTest");
    }

    private static void take(String line) {
        Matcher call = CALL.matcher(line);
        if (!call.matches()) {
            body.append(line).append("\n");
            return;
        }
        Matcher answer = ANSWER.matcher(call.group(2));
        Check.due("an answer is told behind " + line, answer.matches(), true);
        if (answer.matches()) {
            answers++;
            String made = line.substring(0, line.length() - call.group(2).length() - 1);
            String want = answer.group(1).replace("throws ", "throws.");
            String outcome = want.equals(NOTHING) ? "{ " + made + "; return \"" + NOTHING + "\"; }" : made;
            body.append("Check.due(\"").append(made).append("\", Check.outcome(() -> ").append(outcome)
                .append("), \"").append(want).append("\");\n");
        }
    }

    private static String example() {
        return "import java.util.*;\npublic final class ReadmeExample {\n" + members
            + "public static void main(String[] args) {\n" + body + "Check.finish(\"ReadmeExample\");\n}\n}\n";
    }

    /** The exit code of the class, compiled against the classes of this test. */
    private static int run(String source) throws IOException, InterruptedException {
        Path folder = Files.createTempDirectory("readme");
        Path file = folder.resolve("ReadmeExample.java");
        Files.writeString(file, source);
        String classes = System.getProperty("java.class.path");
        int compiled = Started.command(folder, "javac", "-cp", classes, "-d", folder.toString(), file.toString()).exit();
        int exit = compiled != 0 ? compiled
            : Started.command(folder, "java", "-cp", classes + ":" + folder, "ReadmeExample").exit();
        Started.remove(folder);
        return exit;
    }
}
