import java.io.IOException;
import java.lang.reflect.Method;
import java.net.URL;
import java.net.URLClassLoader;
import java.nio.file.Files;
import java.nio.file.Path;
import java.util.ArrayList;
import java.util.List;
import java.util.Set;
import java.util.TreeSet;
import java.util.regex.Matcher;
import java.util.regex.Pattern;
import java.util.stream.Stream;
import javax.tools.ToolProvider;

/** What README.md says of the use of the class and of its tests is so. */
public final class ReadmeTest {
    private static final Checks CHECKS = new Checks("ReadmeTest");
    private static final Path PROGRAM = Path.of("src/main/java/FusedPlans.java");
    private static final Path TESTS = Path.of("src/test/java");
    private static final Pattern EXAMPLE = Pattern.compile("```java\n(.*?)```", Pattern.DOTALL);
    // A line of the example that tells its value: "int name = call;   // 17" or "int name = call;   // 17: more words".
    private static final Pattern TOLD = Pattern.compile("int (\\w+) = .*; +// (-?\\d+)(:.*)?");

    public static void main(String[] args) throws Exception {
        String readme = Files.readString(Path.of("README.md"));
        exampleAnswersAsTold(readme);
        callsAreThoseOfTheClass(readme);
        refusalsAreThoseOfTheClass(readme);
        testsAreThoseOfTheProject(readme);
        namedFilesAreThere(readme);
        CHECKS.end();
    }

    private static void exampleAnswersAsTold(String readme) throws Exception {
        CHECKS.sentence("the example");
        Matcher found = EXAMPLE.matcher(readme);
        CHECKS.due("an example", found.find(), true);
        List<String> values = new ArrayList<>();
        for (String line : found.group(1).split("\n")) {
            Matcher told = TOLD.matcher(line);
            if (told.matches()) {
                values.add(told.group(1) + " == " + told.group(2));
            }
        }
        CHECKS.due("values that are told", values.size() >= 4, true);
        String wrong = run("        " + found.group(1), values);
        CHECKS.due("values that are not as told", wrong, "");
    }

    /** Compiles the example with the class, runs it, and tells which of these conditions do not hold after it. */
    private static String run(String example, List<String> conditions) throws Exception {
        StringBuilder code = new StringBuilder("public final class Example {\n    public static String wrong() {\n");
        code.append(example).append("        String wrong = \"\";\n");
        for (String condition : conditions) {
            code.append("        if (!(").append(condition).append(")) { wrong += \"").append(condition).append("; \"; }\n");
        }
        code.append("        return wrong;\n    }\n}\n");
        Path folder = Files.createTempDirectory("readme");
        try {
            Path file = Files.writeString(folder.resolve("Example.java"), code);
            int compiled = ToolProvider.getSystemJavaCompiler().run(null, null, null, "--release", "17", "-d",
                folder.toString(), PROGRAM.toString(), file.toString());
            CHECKS.due("exit code of javac", compiled, 0);
            return compiled == 0 ? wrong(folder) : "does not compile";
        } finally {
            remove(folder);
        }
    }

    private static String wrong(Path folder) throws Exception {
        try (URLClassLoader loader = new URLClassLoader(new URL[] {folder.toUri().toURL()}, null)) {
            Method method = loader.loadClass("Example").getMethod("wrong");
            return (String) method.invoke(null);
        }
    }

    private static void remove(Path folder) throws IOException {
        try (Stream<Path> files = Files.list(folder)) {
            for (Path file : files.toList()) {
                Files.delete(file);
            }
        }
        Files.delete(folder);
    }

    private static void callsAreThoseOfTheClass(String readme) throws IOException {
        CHECKS.sentence("the calls");
        Set<String> there = all("public (?:int|void) (\\w+\\([^)]*\\)) \\{", Files.readString(PROGRAM));
        Set<String> told = new TreeSet<>();
        for (String call : there) {
            String bare = call.replace("int ", "");
            if (readme.contains("`" + bare + "`")) {
                told.add(call);
            }
        }
        CHECKS.due("calls that are told", told, there);
    }

    private static void refusalsAreThoseOfTheClass(String readme) throws IOException {
        CHECKS.sentence("the refusals");
        Set<String> there = all("public static final int (\\w+ = -\\d+);", Files.readString(PROGRAM));
        CHECKS.due("refusals that are told", all("`([A-Z_]+ = -\\d+)`", readme), there);
        CHECKS.due("refusals", there.size(), 8);
    }

    private static void testsAreThoseOfTheProject(String readme) throws IOException {
        CHECKS.sentence("the table of the tests");
        Set<String> there = new TreeSet<>();
        try (Stream<Path> files = Files.list(TESTS)) {
            for (Path file : files.toList()) {
                String name = file.getFileName().toString();
                if (name.endsWith("Test.java")) {
                    there.add(name.replace(".java", ""));
                }
            }
        }
        CHECKS.due("tests", all("\\| `(\\w+Test)` \\|", readme), there);
    }

    private static void namedFilesAreThere(String readme) {
        CHECKS.sentence("files and folders");
        Set<String> named = all("((?:src|\\.ci)/[\\w./]*\\w)", readme);
        for (String name : named) {
            CHECKS.due(name + " is there", Files.exists(Path.of(name)), true);
        }
        CHECKS.due(".ci/run is told", named.contains(".ci/run"), true);
    }

    private static Set<String> all(String pattern, String text) {
        Set<String> found = new TreeSet<>();
        Matcher matcher = Pattern.compile(pattern).matcher(text);
        while (matcher.find()) {
            found.add(matcher.group(1));
        }
        return found;
    }
}
