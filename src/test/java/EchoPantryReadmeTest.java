import java.io.IOException;
import java.lang.reflect.Method;
import java.lang.reflect.Modifier;
import java.net.URL;
import java.net.URLClassLoader;
import java.nio.file.Files;
import java.nio.file.Path;
import java.util.ArrayList;
import java.util.List;
import java.util.Set;
import java.util.TreeSet;
import java.util.regex.Matcher;
import java.util.regex.Pattern;
import javax.tools.ToolProvider;

/**
 * Compiles the examples of README.md as one program, runs it, and compares what each call answers
 * with what the comment behind it says. To be run in the project's directory.
 */
public final class EchoPantryReadmeTest {
    private static final Path README = Path.of("README.md");
    private static final Path RUN = Path.of(".ci", "run");
    private static final Pattern EXAMPLE =
            Pattern.compile("((?:pantry|new EchoPantry\\(\\))\\.(\\w+)\\(.*\\));\\s+// (.+)");

    private static int checks = 0;
    private static int wrong = 0;

    private static void check(String what, boolean isRight) {
        checks++;
        if (!isRight) {
            wrong++;
            System.out.println(what);
        }
    }

    /** The lines of all blocks of Java on the page. */
    private static List<String> javaLines(List<String> page) {
        List<String> lines = new ArrayList<>();
        boolean isJava = false;
        for (String line : page) {
            if (line.startsWith("```")) {
                isJava = line.equals("```java");
            } else if (isJava) {
                lines.add(line);
            }
        }
        return lines;
    }

    /** What a comment says before its first colon. */
    private static String answerIn(String comment) {
        int colon = comment.indexOf(": ");
        return colon < 0 ? comment : comment.substring(0, colon);
    }

    private static String program(List<String> lines) {
        StringBuilder text = new StringBuilder();
        text.append("public final class ReadmeExamples {\n"
                + "interface Call { Object run(); }\n"
                + "static final java.util.List<String> ANSWERS = new java.util.ArrayList<>();\n"
                + "static void note(Call call) {\n"
                + "  try {\n"
                + "    Object answer = call.run();\n"
                + "    ANSWERS.add(answer instanceof Character ? \"'\" + answer + \"'\" : String.valueOf(answer));\n"
                + "  } catch (RuntimeException e) {\n"
                + "    ANSWERS.add(\"throws \" + e.getClass().getSimpleName());\n"
                + "  }\n"
                + "}\n"
                + "public static java.util.List<String> answers() {\n");
        for (String line : lines) {
            Matcher example = EXAMPLE.matcher(line);
            text.append(example.matches() ? "note(() -> " + example.group(1) + ");" : line).append('\n');
        }
        return text.append("return ANSWERS;\n}\n}\n").toString();
    }

    private static List<?> answersOf(String program) throws IOException, ReflectiveOperationException {
        Path directory = Files.createTempDirectory("readme");
        Path source = directory.resolve("ReadmeExamples.java");
        try {
            Files.writeString(source, program);
            int failures = ToolProvider.getSystemJavaCompiler().run(null, null, null,
                    "-cp", System.getProperty("java.class.path"), "-d", directory.toString(), source.toString());
            if (failures != 0) {
                return null;
            }
            try (URLClassLoader loader = new URLClassLoader(new URL[] {directory.toUri().toURL()})) {
                return (List<?>) loader.loadClass("ReadmeExamples").getMethod("answers").invoke(null);
            }
        } finally {
            try (var files = Files.list(directory)) {
                for (Path file : files.toList()) {
                    Files.delete(file);
                }
            }
            Files.delete(directory);
        }
    }

    private static void examples(List<String> lines) throws IOException, ReflectiveOperationException {
        List<Matcher> examples = new ArrayList<>();
        for (String line : lines) {
            Matcher example = EXAMPLE.matcher(line);
            if (example.matches()) {
                examples.add(example);
            }
            check("an example that says no answer: " + line, example.matches() || !line.startsWith("pantry."));
        }
        List<?> answers = answersOf(program(lines));
        check("the examples do not compile", answers != null);
        if (answers == null) {
            return;
        }
        check(answers.size() + " answers to " + examples.size() + " examples", answers.size() == examples.size());
        for (int i = 0; i < examples.size() && i < answers.size(); i++) {
            String due = answerIn(examples.get(i).group(3));
            check(examples.get(i).group(1) + " answers " + answers.get(i) + ", README.md says " + due,
                    due.equals(answers.get(i)));
        }
    }

    /** The page shows each call of the face. */
    private static void allCalls(List<String> lines) {
        Set<String> shown = new TreeSet<>();
        for (String line : lines) {
            Matcher example = EXAMPLE.matcher(line);
            if (example.matches()) {
                shown.add(example.group(2));
            }
        }
        for (Method method : EchoPantry.class.getDeclaredMethods()) {
            check("README.md has no example of " + method.getName(),
                    !Modifier.isPublic(method.getModifiers()) || shown.contains(method.getName()));
        }
    }

    /** The page names the command that runs the tests, and each test that it runs. */
    private static void tests(List<String> page) throws IOException {
        check("README.md does not name the command that runs the tests", page.contains("    .ci/run"));
        check(".ci/run cannot be executed", Files.isExecutable(RUN));
        String text = String.join("\n", page);
        try (var files = Files.list(Path.of("src", "test", "java"))) {
            for (Path file : files.toList()) {
                String name = file.getFileName().toString().replace(".java", "");
                check("README.md does not tell of " + name, text.contains("- `" + name + "`: "));
            }
        }
    }

    public static void main(String[] args) throws IOException, ReflectiveOperationException {
        List<String> page = Files.readAllLines(README);
        List<String> lines = javaLines(page);
        examples(lines);
        allCalls(lines);
        tests(page);
        System.out.println(checks + " checks, " + wrong + " wrong");
        if (wrong > 0) {
            System.exit(1);
        }
    }
}
