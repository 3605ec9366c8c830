import java.io.IOException;
import java.nio.file.Files;
import java.nio.file.Path;
import java.util.ArrayList;
import java.util.Collections;
import java.util.List;
import java.util.stream.Collectors;
import java.util.stream.Stream;

/** Copies of the project's files, for tests that change them. */
final class Folder {
    private Folder() {
    }

    /** The files of the folder, without the folders in it. */
    static List<Path> files(Path folder) throws IOException {
        try (Stream<Path> all = Files.list(folder)) {
            return all.filter(Files::isRegularFile).sorted().collect(Collectors.toList());
        }
    }

    /** What is copied can be written, even if the folder it is from can't be. */
    static void copy(Path from, Path to) throws IOException {
        Files.createDirectories(to);
        for (Path file : files(from)) {
            Path made = to.resolve(file.getFileName());
            Files.write(made, Files.readAllBytes(file));
            if (Files.isExecutable(file)) {
                made.toFile().setExecutable(true);
            }
        }
    }

    static void delete(Path folder) throws IOException {
        List<Path> all;
        try (Stream<Path> found = Files.walk(folder)) {
            all = new ArrayList<>(found.collect(Collectors.toList()));
        }
        Collections.reverse(all);
        for (Path each : all) {
            Files.delete(each);
        }
    }
}
