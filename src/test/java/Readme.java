import java.io.IOException;
import java.nio.file.Files;
import java.nio.file.Path;
import java.util.ArrayList;
import java.util.List;
import java.util.regex.Matcher;
import java.util.regex.Pattern;

/** What README.md tells in its blocks; its path is the property "readme". */
final class Readme {
    private Readme() {
    }

    static String text() throws IOException {
        return Files.readString(Path.of(System.getProperty("readme", "README.md")));
    }

    /** The blocks of one kind, as what stands behind the three signs that open them tells it. */
    static List<String> blocks(String kind) throws IOException {
        List<String> blocks = new ArrayList<>();
        Matcher block = Pattern.compile("(?ms)^```(\\w*)\n(.*?)^```$").matcher(text());
        while (block.find()) {
            if (block.group(1).equals(kind)) {
                blocks.add(block.group(2));
            }
        }
        return blocks;
    }
}
