import java.io.IOException;
import java.nio.charset.StandardCharsets;
import java.nio.file.Files;
import java.nio.file.Path;
import java.util.Comparator;
import java.util.List;
import java.util.stream.Stream;

/** A command that a test started in a folder; several may go on at once. */
final class Started {
    private final Process process;
    private final Path printed;

    private Started(Process process, Path printed) {
        this.process = process;
        this.printed = printed;
    }

    static Started command(Path folder, String... words) throws IOException {
        // into a file, as a command that prints much would wait for its reader
        Path printed = Files.createTempFile(folder, "printed", ".txt");
        Process process = new ProcessBuilder(List.of(words)).directory(folder.toFile()).redirectErrorStream(true)
            .redirectOutput(printed.toFile()).start();
        return new Started(process, printed);
    }

    /** Waits for its end, and shows what it printed if it failed. */
    int exit() throws IOException, InterruptedException {
        int exit = process.waitFor();
        if (exit != 0) {
            System.out.print(output());
        }
        return exit;
    }

    /** Likewise, but a failure is what is wanted, and is not shown. */
    int quietExit() throws InterruptedException {
        return process.waitFor();
    }

    String output() throws IOException {
        return Files.readString(printed, StandardCharsets.UTF_8);
    }

    static void remove(Path folder) throws IOException {
        List<Path> all;
        try (Stream<Path> found = Files.walk(folder)) {
            all = found.sorted(Comparator.reverseOrder()).toList();
        }
        for (Path path : all) {
            Files.delete(path);
        }
    }
}
