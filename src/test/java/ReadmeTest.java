import java.io.File;
import java.io.IOException;
import java.lang.reflect.Method;
import java.lang.reflect.Modifier;
import java.nio.file.Files;
import java.nio.file.Path;
import java.util.Set;
import java.util.TreeSet;
import java.util.regex.Matcher;
import java.util.regex.Pattern;
import javax.tools.ToolProvider;

/** README.md: its example answers what stands behind each call, and it names all calls and all tests. */
public final class ReadmeTest {
    private static final Pattern CALL = Pattern.compile("(?:(int \\w+) = )?(board\\.\\w+\\(.*\\)); +// (-?\\d+): .*");

    public static void main(String[] args) throws IOException, InterruptedException {
        Answers answers = new Answers();
        String readme = Files.readString(Path.of("README.md"));
        calls(answers, readme);
        tests(answers, readme);
        example(answers, readme);
        answers.end();
    }

    private static void calls(Answers answers, String readme) {
        Set<String> face = new TreeSet<>();
        for (Method method : BlitBoard.class.getDeclaredMethods()) {
            if (Modifier.isPublic(method.getModifiers())) {
                face.add(method.getName() + " " + method.getParameterCount());
            }
        }
        Set<String> named = new TreeSet<>();
        Matcher rows = Pattern.compile("(?m)^\\| `(\\w+)\\(([^)]*)\\)` \\|").matcher(readme);
        while (rows.find()) {
            int parameters = rows.group(2).isEmpty() ? 0 : rows.group(2).split(",").length;
            named.add(rows.group(1) + " " + parameters);
        }
        answers.due("calls named: " + named, named.equals(face) ? 1 : 0, 1);
    }

    private static void tests(Answers answers, String readme) {
        Set<String> there = new TreeSet<>();
        for (String file : new File("src/test/java").list()) {
            if (file.endsWith("Test.java")) {
                there.add(file.substring(0, file.length() - ".java".length()));
            }
        }
        Set<String> named = new TreeSet<>();
        Matcher rows = Pattern.compile("(?m)^\\| `(\\w+Test)` \\|").matcher(readme);
        while (rows.find()) {
            named.add(rows.group(1));
        }
        answers.due("tests named: " + named, named.equals(there) ? 1 : 0, 1);
    }

    /** The example is compiled as it stands there, each call compared with the number behind it. */
    private static void example(Answers answers, String readme) throws IOException, InterruptedException {
        int start = readme.indexOf("```java\n") + "```java\n".length();
        String[] lines = readme.substring(start, readme.indexOf("```", start)).split("\n");
        StringBuilder text = new StringBuilder("class Example {\n    public static void main(String[] args) {\n");
        text.append("Answers answers = new Answers();\n");
        for (String line : lines) {
            text.append(compared(answers, line));
        }
        text.append("answers.end();\n    }\n}\n");
        Path folder = Files.createTempDirectory("readme");
        Path file = folder.resolve("Example.java");
        Files.writeString(file, text);
        String classes = System.getProperty("java.class.path");
        int compiled = ToolProvider.getSystemJavaCompiler().run(
            null, null, null, "-cp", classes, "-d", folder.toString(), file.toString());
        answers.due("the example compiled", compiled, 0);
        if (compiled == 0) {
            String both = classes + File.pathSeparator + folder;
            Process run = new ProcessBuilder("java", "-cp", both, "Example").inheritIO().start();
            answers.due("the example's answers", run.waitFor(), 0);
        }
        for (File left : folder.toFile().listFiles()) {
            left.delete();
        }
        folder.toFile().delete();
    }

    private static String compared(Answers answers, String line) {
        Matcher call = CALL.matcher(line);
        if (!call.matches()) {
            answers.due("no answer behind " + line, line.equals("BlitBoard board = new BlitBoard();") ? 0 : 1, 0);
            return line + "\n";
        }
        String named = call.group(1);
        String kept = named == null ? "" : named + " = " + call.group(2) + ";\n";
        String got = named == null ? call.group(2) : named.substring("int ".length());
        return kept + "answers.due(\"" + call.group(2) + "\", " + got + ", " + call.group(3) + ");\n";
    }
}
