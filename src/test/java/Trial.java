import java.io.IOException;
import java.io.OutputStream;
import java.nio.file.Files;
import java.nio.file.Path;
import java.util.ArrayList;
import java.util.List;
import java.util.concurrent.TimeUnit;
import java.util.stream.Stream;
import javax.tools.ToolProvider;

/** Compiles the class with a fault in it, and runs a test of this class path with that instead of the class itself. */
final class Trial {
    static final Path SOURCE = Path.of("src/main/java/PursuitDesk.java");
    static final String NOT_FOUND = "NOT FOUND";
    static final String NOT_COMPILED = "does not compile";
    private static final int SECONDS = 100;

    private final String test;
    private final Path room;

    Trial(String test) throws IOException {
        this.test = test;
        room = Files.createTempDirectory("trial");
    }

    /** What the test says first about the fault, or NOT_FOUND. Properties are such as "first=true". */
    String run(int number, String source, String... properties) throws IOException, InterruptedException {
        Path place = Files.createDirectory(room.resolve("fault" + number));
        try {
            return compileAndRun(place, source, properties);
        } finally {
            cleanUp(place);
        }
    }

    private static void cleanUp(Path place) throws IOException {
        try (Stream<Path> files = Files.list(place)) {
            for (Path file : files.toList()) {
                Files.delete(file);
            }
        }
        Files.delete(place);
    }

    private String compileAndRun(Path place, String source, String... properties) throws IOException, InterruptedException {
        Path file = Files.writeString(place.resolve("PursuitDesk.java"), source);
        if (ToolProvider.getSystemJavaCompiler().run(null, OutputStream.nullOutputStream(), OutputStream.nullOutputStream(),
            "-d", place.toString(), file.toString()) != 0) {
            return NOT_COMPILED;
        }
        List<String> command = new ArrayList<>(List.of("java", "-XX:+UseSerialGC", "-XX:TieredStopAtLevel=1", "-Dfirst=true"));
        for (String property : properties) {
            command.add("-D" + property);
        }
        command.addAll(List.of("-cp", place + ":" + System.getProperty("java.class.path"), test));
        Path out = place.resolve("out");
        Process process = new ProcessBuilder(command).redirectErrorStream(true).redirectOutput(out.toFile()).start();
        if (!process.waitFor(SECONDS, TimeUnit.SECONDS)) {
            process.destroyForcibly();
            return "does not end";
        }
        if (process.exitValue() == 0) {
            return NOT_FOUND;
        }
        return Files.readAllLines(out).stream().findFirst().orElse("");
    }
}
