import java.io.IOException;
import java.nio.charset.StandardCharsets;
import java.nio.file.Path;

/** Commands as one types them in a folder: their exit code, and what they printed. */
final class Shell {
    final int code;
    final String said;

    Shell(Path folder, String commands) throws IOException, InterruptedException {
        Process process = new ProcessBuilder("sh", "-e", "-c", commands)
            .directory(folder.toFile()).redirectErrorStream(true).start();
        said = new String(process.getInputStream().readAllBytes(), StandardCharsets.UTF_8);
        code = process.waitFor();
    }

    boolean says(String words) {
        return said.contains(words);
    }
}
