import java.lang.reflect.Method;
import java.lang.reflect.Modifier;
import java.net.URL;
import java.net.URLClassLoader;
import java.nio.file.Files;
import java.nio.file.Path;
import java.util.ArrayList;
import java.util.List;
import java.util.regex.Matcher;
import java.util.regex.Pattern;
import java.util.stream.Collectors;
import java.util.stream.Stream;

/** README.md lies at the project's root and says how to use the class and how to run its tests; and what it says is so. */
public final class ReadmeTest {
    private static final Path README = Path.of("README.md");
    private static final String USE = "## How to use the class\n";
    private static final String TESTS = "## How to run its tests\n";
    // A call with the answer that stands behind it: all that follows the number is for the reader.
    private static final Pattern ANSWERED = Pattern.compile("^(mint\\.\\w+\\(.*\\)); +// (-?\\d+)\\b.*$");

    public static void main(String[] args) throws Exception {
        holds("README.md lies at the project's root", Files.isRegularFile(README));
        String text = Files.isRegularFile(README) ? Files.readString(README) : "";
        int use = text.indexOf(USE);
        int tests = text.indexOf(TESTS);
        holds("README.md says how to use the class, then how to run its tests", use >= 0 && tests > use);
        if (Check.wrongSoFar() == 0) {
            namesTheFace(text.substring(use, tests));
            namesTheTests(text.substring(tests));
            namesWhatIsThere(text);
            exampleAnswers(text.substring(use, tests));
        }
        Check.end();
    }

    private static void holds(String what, boolean isSo) {
        Check.due(what, isSo ? 1 : 0, 1);
    }

    private static void namesTheFace(String use) {
        for (Method m : SleepMint.class.getDeclaredMethods()) {
            if (!Modifier.isPublic(m.getModifiers())) continue;
            Matcher row = Pattern.compile("\\| `" + m.getName() + "\\(([^)]*)\\)` \\|").matcher(use);
            boolean isNamed = row.find();
            holds("a row tells of " + m.getName(), isNamed);
            if (!isNamed) continue;
            int parameters = row.group(1).isEmpty() ? 0 : row.group(1).split(",").length;
            Check.due("parameters of " + m.getName(), parameters, m.getParameterCount());
        }
        String[] names = {"NONE", "UNKNOWN", "OUTSIDE", "NOT", "FULL"};
        int[] values = {SleepMint.NONE, SleepMint.UNKNOWN, SleepMint.OUTSIDE, SleepMint.NOT, SleepMint.FULL};
        for (int k = 0; k < names.length; k++) {
            holds(names[k] + " stands there with its number", use.contains("`" + names[k] + "` (" + values[k]));
        }
    }

    private static void namesTheTests(String tests) throws Exception {
        holds("the script is named", tests.contains("\n    bash .ci/run\n"));
        holds("../shared/tests is named", tests.contains("`../shared/tests`"));
        for (String name : javaFilesIn("src/test/java")) holds(name + " is named", tests.contains("`" + name + "`"));
    }

    private static List<String> javaFilesIn(String directory) throws Exception {
        try (Stream<Path> files = Files.list(Path.of(directory))) {
            return files.map(f -> f.getFileName().toString()).filter(f -> f.endsWith(".java"))
                .map(f -> f.substring(0, f.length() - 5)).sorted().collect(Collectors.toList());
        }
    }

    private static void namesWhatIsThere(String text) throws Exception {
        Matcher path = Pattern.compile("(?:src|\\.ci)/[\\w/.]*\\w").matcher(text);
        while (path.find()) holds(path.group() + " is there", Files.exists(Path.of(path.group())));
        holds(".ci/run can be run", Files.isExecutable(Path.of(".ci/run")));
        List<String> inside = javaFilesIn("src/test/java");
        Matcher test = Pattern.compile("`(\\w+Test)`").matcher(text);
        while (test.find()) holds(test.group(1) + " is there", inside.contains(test.group(1)));
    }

    private static void exampleAnswers(String use) throws Exception {
        String fence = "```java\n";
        int begin = use.indexOf(fence);
        int end = use.indexOf("```\n", begin + fence.length());
        holds("there is an example", begin >= 0 && end > begin);
        if (begin < 0 || end < begin) return;
        StringBuilder code = new StringBuilder();
        List<String> calls = new ArrayList<>();
        List<Integer> due = new ArrayList<>();
        for (String line : use.substring(begin + fence.length(), end).split("\n")) {
            Matcher m = ANSWERED.matcher(line);
            boolean isAnswered = m.matches();
            code.append(isAnswered ? "answers[" + calls.size() + "] = " + m.group(1) + ";" : line).append('\n');
            if (!isAnswered) continue;
            calls.add(m.group(1));
            due.add(Integer.valueOf(m.group(2)));
        }
        holds("the example has answers", calls.size() >= 10);
        int[] answers = run(code.toString(), calls.size());
        for (int k = 0; k < answers.length; k++) Check.due(calls.get(k) + " in the example", answers[k], due.get(k));
    }

    private static int[] run(String code, int answers) throws Exception {
        Path directory = Files.createTempDirectory("readme");
        try {
            Path file = directory.resolve("Example.java");
            Files.writeString(file, "public final class Example {\npublic static int[] go() {\nint[] answers = new int["
                + answers + "];\n" + code + "return answers;\n}\n}\n");
            int failed = new ProcessBuilder("javac", "--release", "17", "-classpath", System.getProperty("java.class.path"),
                "-d", directory.toString(), file.toString()).inheritIO().start().waitFor();
            holds("the example compiles", failed == 0);
            if (failed != 0) return new int[0];
            try (URLClassLoader loader = new URLClassLoader(new URL[] {directory.toUri().toURL()})) {
                return (int[]) loader.loadClass("Example").getMethod("go").invoke(null);
            }
        } finally {
            for (String name : new String[] {"Example.java", "Example.class"}) Files.deleteIfExists(directory.resolve(name));
            Files.delete(directory);
        }
    }
}
