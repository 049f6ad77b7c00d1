import java.io.IOException;
import java.nio.file.Files;
import java.nio.file.Path;
import java.util.Comparator;
import java.util.stream.Stream;

/** A folder for the time of a test; it goes with all that is in it. */
final class Scratch implements AutoCloseable {
    final Path folder;

    Scratch() throws IOException {
        folder = Files.createTempDirectory("fleetshares");
    }

    /** A file in it, with the folders that it wants. */
    Path write(String name, String text) throws IOException {
        Path file = folder.resolve(name);
        Files.createDirectories(file.getParent());
        return Files.writeString(file, text);
    }

    @Override
    public void close() throws IOException {
        try (Stream<Path> all = Files.walk(folder)) {
            for (Path one : all.sorted(Comparator.reverseOrder()).toList()) {
                Files.delete(one);
            }
        }
    }
}
