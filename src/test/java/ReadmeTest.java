import java.io.IOException;
import java.lang.reflect.Method;
import java.lang.reflect.Modifier;
import java.nio.file.Files;
import java.nio.file.Path;
import java.util.Comparator;
import java.util.List;
import java.util.regex.Matcher;
import java.util.regex.Pattern;
import java.util.stream.Stream;

/** What README.md says to do is done as it stands there, in a copy of the project. It is run from the project's folder. */
public final class ReadmeTest {
    private static final String ALL_TESTS = ".ci/run\n";

    public static void main(String[] args) throws IOException, InterruptedException {
        String readme = Files.readString(Path.of("README.md"));
        Path copy = Files.createTempDirectory("readme");
        try {
            copyTree(Path.of("src"), copy);
            dueExample(readme, copy);
            dueOneTestAlone(readme, copy);
        } finally {
            deleteTree(copy);
        }
        Check.due("README.md tells how to run all tests", block(readme, "sh", 1).equals(ALL_TESTS));
        Check.due(".ci/run can be run", Files.isExecutable(Path.of(".ci/run")));
        dueAllCalls(readme);
        dueAllTests(readme);
        Check.end();
    }

    private static void dueExample(String readme, Path folder) throws IOException, InterruptedException {
        Files.writeString(folder.resolve("Example.java"), block(readme, "java", 0));
        Check.due("the example runs", run(block(readme, "sh", 0), folder), 0);
        String printed = Files.readString(folder.resolve("printed"));
        Check.due("the example prints what README.md says, not:\n" + printed, printed.equals(block(readme, "text", 0)));
    }

    private static void dueOneTestAlone(String readme, Path folder) throws IOException, InterruptedException {
        Check.due("one test runs alone", run(block(readme, "sh", 2), folder), 0);
    }

    /** Every public method is named. */
    private static void dueAllCalls(String readme) {
        for (Method method : ThreadedArchive.class.getDeclaredMethods()) {
            if (Modifier.isPublic(method.getModifiers())) {
                Check.due(method.getName() + " is told", readme.contains("`" + method.getName() + "("));
            }
        }
    }

    /** Every test that README.md names is there. */
    private static void dueAllTests(String readme) {
        Matcher matcher = Pattern.compile("`(\\w+Test)`").matcher(readme);
        int tests = 0;
        while (matcher.find()) {
            Path file = Path.of("src/test/java", matcher.group(1) + ".java");
            Check.due(file + " is there", Files.exists(file));
            tests++;
        }
        Check.due("tests are named", tests > 0);
    }

    /** The n-th block of this kind, from 0. */
    private static String block(String readme, String kind, int n) {
        Matcher matcher = Pattern.compile("(?ms)^```" + kind + "\n(.*?)^```$").matcher(readme);
        for (int before = 0; matcher.find(); before++) {
            if (before == n) {
                return matcher.group(1);
            }
        }
        Check.due("README.md has block " + n + " of kind " + kind, false);
        return "";
    }

    /** The exit code of these commands; what they print is in the file "printed". */
    private static int run(String commands, Path folder) throws IOException, InterruptedException {
        ProcessBuilder builder = new ProcessBuilder(List.of("sh", "-e", "-c", commands));
        builder.directory(folder.toFile());
        builder.redirectError(ProcessBuilder.Redirect.INHERIT);
        builder.redirectOutput(folder.resolve("printed").toFile());
        return builder.start().waitFor();
    }

    private static void copyTree(Path from, Path into) throws IOException {
        try (Stream<Path> paths = Files.walk(from)) {
            for (Path path : paths.toList()) {
                Files.copy(path, into.resolve(path.toString()));
            }
        }
    }

    private static void deleteTree(Path root) throws IOException {
        try (Stream<Path> paths = Files.walk(root)) {
            for (Path path : paths.sorted(Comparator.reverseOrder()).toList()) {
                Files.delete(path);
            }
        }
    }
}
