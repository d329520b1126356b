import java.io.ByteArrayOutputStream;
import java.io.IOException;
import java.nio.file.Files;
import java.nio.file.Path;
import java.util.ArrayList;
import java.util.Comparator;
import java.util.List;
import java.util.concurrent.TimeUnit;
import java.util.stream.Stream;
import javax.tools.JavaCompiler;
import javax.tools.ToolProvider;

/** Compiles a class that is given as text, and runs programs with it, each by itself. */
final class Machine {
    private static final int MOST_SECONDS = 120;

    private final Path directory;

    /** What a program said, and with which code it ended. */
    record Run(int code, String said) {
    }

    Machine() throws IOException {
        directory = Files.createTempDirectory("roundbounds");
    }

    /** What the compiler had to say; empty, if it had nothing. */
    String compile(String name, String source) throws IOException {
        JavaCompiler compiler = ToolProvider.getSystemJavaCompiler();
        if (compiler == null) {
            return "there is no compiler here";
        }
        Path file = source(name);
        Files.writeString(file, source);
        ByteArrayOutputStream said = new ByteArrayOutputStream();
        int code = compiler.run(null, said, said, "--release", "17", "-proc:none",
                "-cp", classPath(), "-d", directory.toString(), file.toString());
        return code == 0 ? "" : "not compiled: " + said;
    }

    Path source(String name) {
        return directory.resolve(name + ".java");
    }

    /** What was compiled here comes before what this machine has under the same name. */
    private String classPath() {
        return directory + System.getProperty("path.separator")
                + System.getProperty("java.class.path");
    }

    Run run(String program, String[] args) throws IOException, InterruptedException {
        List<String> command = new ArrayList<>(List.of(
                Path.of(System.getProperty("java.home"), "bin", "java").toString(),
                "-XX:TieredStopAtLevel=1", "-XX:+UseSerialGC", "-cp", classPath(), program));
        command.addAll(List.of(args));
        // into a file, so that a program that never ends does not keep us reading
        Path said = directory.resolve(program + ".txt");
        Process process = new ProcessBuilder(command).redirectErrorStream(true)
                .redirectOutput(said.toFile()).start();
        if (!process.waitFor(MOST_SECONDS, TimeUnit.SECONDS)) {
            process.destroyForcibly().waitFor();
            return new Run(-1, program + " did not end");
        }
        return new Run(process.exitValue(), Files.readString(said));
    }

    void remove() throws IOException {
        List<Path> all;
        try (Stream<Path> files = Files.walk(directory)) {
            all = files.sorted(Comparator.reverseOrder()).toList();
        }
        for (Path file : all) {
            Files.delete(file);
        }
    }
}
