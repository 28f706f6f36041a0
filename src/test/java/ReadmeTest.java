import java.io.IOException;
import java.lang.reflect.Method;
import java.lang.reflect.Modifier;
import java.nio.file.Files;
import java.nio.file.Path;
import java.util.ArrayList;
import java.util.List;
import java.util.stream.Stream;

/** What README.md says must be so: its example prints what it says, and it names each call and each test. */
final class ReadmeTest {
    private static final Check CHECK = new Check();

    public static void main(String[] args) throws IOException, InterruptedException {
        String readme = Files.readString(Path.of("README.md"));
        example(block(readme, "java"), block(readme, "text"));
        namesEachCall(readme);
        namesEachTest(readme);
        CHECK.end();
    }

    /** Returns the first block of a language; an empty text if there is none. */
    private static String block(String readme, String language) {
        String fence = "```";
        int start = readme.indexOf(fence + language + "\n");
        int end = start < 0 ? -1 : readme.indexOf(fence, start + fence.length());
        return end < 0 ? "" : readme.substring(readme.indexOf('\n', start) + 1, end);
    }

    /** Does with the example what the README says: both files beside each other, javac, java. */
    private static void example(String code, String due) throws IOException, InterruptedException {
        Path place = Files.createTempDirectory("readme");
        Files.writeString(place.resolve("Example.java"), code);
        Files.copy(Path.of("src/main/java/FieldFiller.java"), place.resolve("FieldFiller.java"));
        CHECK.same("javac of the example prints", run(place, "javac", "FieldFiller.java", "Example.java"), "");
        CHECK.same("java of the example prints", run(place, "java", "Example"), due);
        for (Path file : files(place)) {
            Files.delete(file);
        }
        Files.delete(place);
    }

    /** Returns what a command prints, but for its errors, among which java may tell its settings. */
    private static String run(Path place, String... command) throws IOException, InterruptedException {
        Process process = new ProcessBuilder(command).directory(place.toFile())
                .redirectError(ProcessBuilder.Redirect.INHERIT).start();
        String printed = new String(process.getInputStream().readAllBytes());
        CHECK.same(String.join(" ", command) + " ends with", process.waitFor(), 0);
        return printed;
    }

    private static void namesEachCall(String readme) {
        for (Method method : FieldFiller.class.getDeclaredMethods()) {
            if (Modifier.isPublic(method.getModifiers())) {
                String name = "`" + method.getName() + "`";
                CHECK.same("README.md names " + name, readme.contains(name), true);
            }
        }
        CHECK.same("README.md names NONE", readme.contains("`NONE`"), true);
    }

    private static void namesEachTest(String readme) throws IOException {
        for (Path file : files(Path.of("src/test/java"))) {
            String name = "`" + file.getFileName().toString().replace(".java", "") + "`";
            CHECK.same("README.md names " + name, readme.contains(name), true);
        }
    }

    private static List<Path> files(Path place) throws IOException {
        List<Path> files = new ArrayList<>();
        try (Stream<Path> all = Files.list(place)) {
            all.forEach(files::add);
        }
        return files;
    }
}
