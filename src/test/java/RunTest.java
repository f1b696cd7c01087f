import java.io.IOException;
import java.nio.file.Files;
import java.nio.file.Path;
import java.nio.file.StandardCopyOption;
import java.util.ArrayList;
import java.util.List;

/**
 * The command of README.md runs the tests: it is started in small projects of the same layout, some of which have a
 * test that fails, or none at all. The script is the property "run".
 */
public final class RunTest {
    private static final String CLASS = "public final class PinnedSky { static int answer() { return 7; } }\n";
    private static final String RIGHT = test(7);
    private static final String WRONG = test(8);
    private static final String BROKEN = "public final class # {\n";

    /** A project, how its run must end, and what it must print by then. */
    private record Project(String told, Path folder, Started run, int exit, List<String> lines) {
    }

    private static final List<Project> projects = new ArrayList<>();

    public static void main(String[] args) throws IOException, InterruptedException {
        List<String> commands = Readme.blocks("");
        Check.due("README.md tells one command", commands.size(), 1);
        String command = commands.isEmpty() ? "" : commands.get(0).trim();
        Path script = Path.of(System.getProperty("run", ".ci/run"));
        Check.due("the script can be started by itself", Files.isExecutable(script), true);
        start(command, "all is right", CLASS, RIGHT, RIGHT, 0, "passed: OwnTest", "passed: Runs", "2 passed, 0 failed");
        start(command, "a test of its own is wrong", CLASS, WRONG, RIGHT, 1, "FAILED: OwnTest", "passed: Runs");
        start(command, "a shared test is wrong", CLASS, RIGHT, WRONG, 1, "passed: OwnTest", "FAILED: Runs");
        start(command, "a test of its own is no Java", CLASS, BROKEN, RIGHT, 1, "passed: Runs");
        start(command, "a shared test is no Java", CLASS, RIGHT, BROKEN, 1, "passed: OwnTest");
        start(command, "the class is no Java", "public final class PinnedSky {", RIGHT, RIGHT, 1, "0 passed, 2 failed");
        start(command, "there is no shared test", CLASS, RIGHT, null, 1, "passed: OwnTest");
        start(command, "there is no test of its own", CLASS, null, RIGHT, 1, "passed: Runs");
        for (Project project : projects) {
            look(project);
        }
        Check.finish("RunTest");
    }

    /** A test whose # is its own name; it prints and ends as the form of shared tests asks. */
    private static String test(int want) {
        return "public final class # { public static void main(String[] args) { if (PinnedSky.answer() != " + want
            + ") { System.out.println(\"answer() is wrong\"); System.exit(1); } } }\n";
    }

    private static void start(String command, String told, String source, String own, String shared, int exit,
            String... lines) throws IOException {
        Path folder = Files.createTempDirectory("project");
        Path root = Files.createDirectories(folder.resolve("main"));
        write(root.resolve("src/main/java"), "PinnedSky", source);
        write(root.resolve("src/test/java"), "OwnTest", own);
        write(folder.resolve("shared/tests"), "Runs", shared);
        Path script = Files.createDirectories(root.resolve(".ci")).resolve("run");
        Files.copy(Path.of(System.getProperty("run", ".ci/run")), script, StandardCopyOption.COPY_ATTRIBUTES);
        projects.add(new Project(told, folder, Started.command(root, "bash", "-c", command), exit, List.of(lines)));
    }

    private static void write(Path folder, String name, String source) throws IOException {
        Files.createDirectories(folder);
        if (source != null) {
            Files.writeString(folder.resolve(name + ".java"), source.replace("#", name));
        }
    }

    private static void look(Project project) throws IOException, InterruptedException {
        Check.due("exit code where " + project.told, project.run.quietExit(), project.exit);
        String printed = project.run.output();
        for (String line : project.lines) {
            Check.due("where " + project.told + " it prints '" + line + "'", printed.contains(line), true);
        }
        Started.remove(project.folder);
    }
}
