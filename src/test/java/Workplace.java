import java.io.IOException;
import java.nio.file.Files;
import java.nio.file.Path;
import java.util.Comparator;
import java.util.List;
import java.util.stream.Stream;

/** A folder that passes: a project main with shared beside it, in which commands can be run as a reader would. */
final class Workplace implements AutoCloseable {
    /** What a command printed, and how it ended. */
    record Ended(int code, String printed) { }

    private final Path top;

    Workplace() throws IOException {
        top = Files.createTempDirectory("marbles");
        Files.createDirectories(top.resolve("main"));
    }

    void put(String file, String text) throws IOException {
        Path to = top.resolve(file);
        Files.createDirectories(to.getParent());
        Files.writeString(to, text);
    }

    /** Copies a file of this project to the same place there. */
    void copy(String file) throws IOException {
        put("main/" + file, Files.readString(Path.of(file)));
    }

    /** The real ../shared stands beside main. */
    void linkShared() throws IOException {
        Files.createSymbolicLink(top.resolve("shared"), Path.of("../shared").toRealPath());
    }

    boolean has(String file) {
        return Files.exists(top.resolve(file));
    }

    /** Runs a script in main that ends with the first command that fails. */
    Ended run(String script) throws IOException, InterruptedException {
        ProcessBuilder builder = new ProcessBuilder("bash", "-e", "-c", script);
        Process process = builder.directory(top.resolve("main").toFile()).redirectErrorStream(true).start();
        process.getOutputStream().close();
        String printed = new String(process.getInputStream().readAllBytes());
        return new Ended(process.waitFor(), printed);
    }

    @Override
    public void close() throws IOException {
        List<Path> all;
        try (Stream<Path> walk = Files.walk(top)) {
            all = walk.sorted(Comparator.reverseOrder()).toList();
        }
        for (Path path : all) {
            Files.delete(path);
        }
    }
}
