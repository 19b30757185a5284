import java.io.IOException;
import java.lang.reflect.Method;
import java.lang.reflect.Modifier;
import java.nio.charset.StandardCharsets;
import java.nio.file.Files;
import java.nio.file.Path;

/** What README.md tells of the use is so: its example compiles and prints what is shown, and no call is left out. */
public final class ReadmeTest {
    private ReadmeTest() {
    }

    public static void main(String[] args) throws IOException, InterruptedException {
        Checks checks = new Checks("readme");
        String readme = Files.readString(Path.of("README.md"));
        checks.same("the example", printedBy(block(readme, "java")), block(readme, "text"));
        for (Method method : PreferenceCount.class.getDeclaredMethods()) {
            if (Modifier.isPublic(method.getModifiers())) {
                checks.holds("a line for " + method.getName(), readme.contains("\n| `" + method.getName() + "("));
            }
        }
        checks.finish();
    }

    /** The first block of its kind. */
    private static String block(String readme, String kind) {
        String fence = "\n```";
        int start = readme.indexOf(fence + kind + "\n");
        if (start < 0) {
            throw new IllegalStateException("README.md has no block of " + kind);
        }
        int first = readme.indexOf('\n', start + 1) + 1;
        return readme.substring(first, readme.indexOf(fence, first) + 1);
    }

    private static String printedBy(String program) throws IOException, InterruptedException {
        Path directory = Files.createTempDirectory("readme");
        Path file = directory.resolve("Example.java");
        Files.writeString(file, program);
        try {
            String java = Path.of(System.getProperty("java.home"), "bin", "java").toString();
            Process run = new ProcessBuilder(java, "-cp", System.getProperty("java.class.path"), file.toString())
                    .redirectErrorStream(true).start();
            String printed = new String(run.getInputStream().readAllBytes(), StandardCharsets.UTF_8);
            int code = run.waitFor();
            return code == 0 ? printed : printed + "and ended with " + code;
        } finally {
            Files.delete(file);
            Files.delete(directory);
        }
    }
}
