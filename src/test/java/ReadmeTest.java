import java.io.File;
import java.io.IOException;
import java.lang.reflect.Method;
import java.lang.reflect.Modifier;
import java.nio.charset.StandardCharsets;
import java.nio.file.Files;
import java.nio.file.Path;
import java.nio.file.Paths;

/** README.md: its example compiles and prints what the page says, and the page names every call and every test. */
public final class ReadmeTest {
    private static final Probe PROBE = new Probe("the readme");

    private static String read(Path path) throws IOException {
        return new String(Files.readAllBytes(path), StandardCharsets.UTF_8);
    }

    /** What stands between the first fence of a kind and the fence behind it. */
    private static String block(String page, String kind) {
        String fence = "\n```" + kind + "\n";
        int begin = page.indexOf(fence);
        int end = begin < 0 ? -1 : page.indexOf("\n```", begin + fence.length());
        PROBE.holds("a block of " + kind, end >= 0);
        return end < 0 ? "" : page.substring(begin + fence.length(), end + 1);
    }

    private static String printed(String source, Path folder) throws Exception {
        Path file = folder.resolve("Example.java");
        Files.write(file, source.getBytes(StandardCharsets.UTF_8));
        String classes = System.getProperty("java.class.path");
        String told = run("javac", "-Xlint:all", "-Werror", "-cp", classes, "-d", folder.toString(), file.toString());
        PROBE.holds("the example compiles: " + told, told.isEmpty());
        return told.isEmpty() ? run("java", "-cp", classes + File.pathSeparator + folder, "Example") : "";
    }

    private static String run(String... words) throws Exception {
        Process process = new ProcessBuilder(words).redirectErrorStream(true).start();
        String told = new String(process.getInputStream().readAllBytes(), StandardCharsets.UTF_8);
        PROBE.due(words[0] + " ends with", 0, process.waitFor());
        return told.replace(System.lineSeparator(), "\n");
    }

    private static void example(String page) throws Exception {
        Path folder = Files.createTempDirectory("readme");
        try {
            String got = printed(block(page, "java"), folder);
            PROBE.holds("the example prints\n" + got + "as the page says", got.equals(block(page, "text")));
        } finally {
            for (File file : folder.toFile().listFiles()) {
                Files.delete(file.toPath());
            }
            Files.delete(folder);
        }
    }

    private static void names(String page, Path tests) {
        String behind = page.substring(Math.max(0, page.indexOf("Which calls there are")));
        for (Method m : ClockZones.class.getDeclaredMethods()) {
            PROBE.holds("the page names " + m.getName(), !Modifier.isPublic(m.getModifiers()) || behind.contains("`" + m.getName() + "`"));
        }
        for (String file : tests.toFile().list()) {
            PROBE.holds("the page names " + file, !file.endsWith("Test.java") || page.contains("| `" + file.replace(".java", "") + "` |"));
        }
    }

    public static void main(String[] args) throws Exception {
        Path readme = Paths.get(System.getProperty("clockzones.readme", "README.md"));
        String page = read(readme);
        example(page);
        names(page, readme.toAbsolutePath().getParent().resolve("src/test/java"));
        PROBE.end();
    }
}
