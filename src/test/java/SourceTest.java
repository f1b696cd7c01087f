import java.io.IOException;
import java.nio.file.Files;
import java.nio.file.Path;
import java.util.List;
import java.util.Set;
import java.util.regex.Matcher;
import java.util.regex.Pattern;

/** What can be seen of LANGUAGE.md in the text of the class; the file's path is the property "source". */
public final class SourceTest {
    private static final List<String> BANNED = List.of("->", "::", "@", "\\bfinally\\b", "\\bsynchronized\\b",
        "\\bassert\\b", "Exact\\b", "\\bvar\\b", "\\bcatch\\b", "\\btry\\b", "\\bpackage\\b", "\\bSystem\\.(?!arraycopy)",
        "\\bThread\\b", "\\bRandom\\b", "\\bgetMessage\\b", "\\bhashCode\\b", "\\btoString\\b", "static \\{",
        "\\bprotected\\b", "\\bnew Integer\\b", "\\bObject\\b", "\\bList\\b", "\\bdouble\\b", "\\bfloat\\b",
        "\\bwhile \\(true\\)", "\\bfor \\(;;\\)");
    private static final Set<String> IMPORTS = Set.of("import java.util.Arrays;", "import java.util.NoSuchElementException;");
    private static final int MOST_LINES_OF_A_METHOD = 60;
    private static final int MOST_PARAMETERS = 7;
    private static final int MOST_CLASSES = 12;

    public static void main(String[] args) throws IOException {
        String path = System.getProperty("source", "src/main/java/PinnedSky.java");
        String source = Files.readString(Path.of(path));
        Check.due("signs above 126", source.chars().allMatch(sign -> sign < 127), true);
        String code = withoutComments(source);
        for (String banned : BANNED) {
            Check.due("has " + banned, Pattern.compile(banned).matcher(code).find(), false);
        }
        for (String line : code.split("\n")) {
            if (line.startsWith("import")) {
                Check.due("import: " + line, IMPORTS.contains(line.trim()), true);
            }
            if (line.contains(" static ") && line.contains(" = ")) {
                Check.due("final: " + line, line.contains(" final "), true);
            }
        }
        Check.due("texts joined by +", Pattern.compile("\" *\\+|\\+ *\"").matcher(code).find(), false);
        methods(code);
        int classes = 0;
        Matcher found = Pattern.compile("\\bclass \\w+").matcher(code);
        while (found.find()) {
            classes++;
        }
        Check.due(classes + " classes are few enough", classes <= MOST_CLASSES, true);
        Check.finish("SourceTest");
    }

    private static String withoutComments(String source) {
        return Pattern.compile("/\\*.*?\\*/", Pattern.DOTALL).matcher(source).replaceAll("").replaceAll("//[^\n]*", "");
    }

    private static void methods(String code) {
        Matcher head = Pattern.compile("(?m)^( +)(?:public |private |static |final |abstract )*[\\w\\[\\]]+ (\\w+)\\(([^)]*)\\)[^;{]*\\{$")
            .matcher(code);
        int methods = 0;
        while (head.find()) {
            methods++;
            String name = head.group(2);
            int end = code.indexOf("\n" + head.group(1) + "}\n", head.start());
            long lines = code.substring(head.start(), end).lines().count() + 1;
            Check.due(name + " has " + lines + " lines, few enough", lines <= MOST_LINES_OF_A_METHOD, true);
            int parameters = head.group(3).isBlank() ? 0 : head.group(3).split(",").length;
            Check.due(name + " has few enough parameters", parameters <= MOST_PARAMETERS, true);
        }
        Check.due("methods were found", methods > 100, true);
    }
}
