import java.io.IOException;
import java.lang.reflect.Constructor;
import java.lang.reflect.Field;
import java.lang.reflect.Method;
import java.lang.reflect.Modifier;
import java.nio.file.Files;
import java.nio.file.Path;
import java.util.Arrays;
import java.util.HashSet;
import java.util.List;
import java.util.Set;
import java.util.regex.Matcher;
import java.util.regex.Pattern;

/** The rules of LANGUAGE.md that can be seen from the program's text and from its classes. */
public final class LanguageTest {
    private static final String[] NOT_USED = {
        "\\bthrow\\b", "\\bthrows\\b", "\\btry\\b", "\\bcatch\\b", "\\bsynchronized\\b", "\\bassert\\b", "->", "::",
        "\\bpackage\\b", "\\bhashCode\\b", "\\btoString\\b", "\\bequals\\b", "Exact\\b", "\\bRandom\\b",
        "\\bThread\\b", "\\bObject\\b", "\\bstatic \\{", "\\bprotected\\b", "\\bwhile \\(true\\)", "for \\(;;\\)"};
    private static final Set<String> LIBRARY = Set.of("Arrays.fill", "Math.max", "Math.min", "System.arraycopy");

    public static void main(String[] args) throws IOException {
        Answers answers = new Answers();
        String source = Files.readString(Path.of("src/main/java/BlitBoard.java"));
        String code = source.replaceAll("//[^\n]*", "");
        words(answers, code);
        library(answers, code);
        shortMethods(answers, code);
        classes(answers);
        answers.end();
    }

    private static void words(Answers answers, String code) {
        for (String word : NOT_USED) {
            answers.due("uses " + word, Pattern.compile(word).matcher(code).find() ? 1 : 0, 0);
        }
    }

    /** Rule 4: what stands before a dot with a large letter is a class of the library. */
    private static void library(Answers answers, String code) {
        Matcher imports = Pattern.compile("import ([^;]+);").matcher(code);
        while (imports.find()) {
            answers.due("import " + imports.group(1), imports.group(1).equals("java.util.Arrays") ? 1 : 0, 1);
        }
        Matcher calls = Pattern.compile("\\b([A-Z][a-z]\\w*\\.\\w+)").matcher(code.replaceAll("import [^;]+;", ""));
        while (calls.find()) {
            answers.due("calls " + calls.group(1), LIBRARY.contains(calls.group(1)) ? 1 : 0, 1);
        }
    }

    /** Rule 11: some sixty lines; a method's last line is a brace as far in as its first line. */
    private static void shortMethods(Answers answers, String code) {
        List<String> lines = Arrays.asList(code.split("\n"));
        for (int k = 0; k < lines.size(); k++) {
            Matcher head = Pattern.compile("^( +)[^=;]*\\) \\{$").matcher(lines.get(k));
            if (head.find()) {
                int length = lines.subList(k, lines.size()).indexOf(head.group(1) + "}");
                answers.due("length of " + lines.get(k).trim(), length <= 60 ? 1 : 0, 1);
            }
        }
    }

    private static void classes(Answers answers) {
        Set<String> face = new HashSet<>();
        for (Method method : BlitBoard.class.getDeclaredMethods()) {
            if (Modifier.isPublic(method.getModifiers())) {
                face.add(method.getName());
            }
        }
        Class<?>[] inside = BlitBoard.class.getDeclaredClasses();
        answers.due("some twelve classes", inside.length <= 11 ? 1 : 0, 1);
        members(answers, BlitBoard.class, face);
        for (Class<?> one : inside) {
            int modifiers = one.getModifiers();
            boolean shown = Modifier.isPublic(modifiers) || Modifier.isProtected(modifiers);
            answers.due(one + " is static", Modifier.isStatic(modifiers) ? 1 : 0, 1);
            answers.due(one + " is shown", shown ? 1 : 0, 0);
            members(answers, one, face);
        }
    }

    /** Rules 1, 5 and 11. */
    private static void members(Answers answers, Class<?> one, Set<String> face) {
        int fields = 0;
        for (Field field : one.getDeclaredFields()) {
            int modifiers = field.getModifiers();
            if (Modifier.isStatic(modifiers)) {
                answers.due(field + " is final", Modifier.isFinal(modifiers) ? 1 : 0, 1);
                answers.due(field + " is a number", field.getType() == int.class ? 1 : 0, 1);
            } else {
                fields++;
            }
        }
        answers.due("fields of " + one, fields <= 20 ? 1 : 0, 1);
        for (Method method : one.getDeclaredMethods()) {
            boolean shown = one == BlitBoard.class && Modifier.isPublic(method.getModifiers());
            if (!shown) {
                answers.due("parameters of " + method, method.getParameterCount() <= 7 ? 1 : 0, 1);
                answers.due("a name of the face, " + method, face.contains(method.getName()) ? 1 : 0, 0);
            }
        }
        for (Constructor<?> made : one.getDeclaredConstructors()) {
            answers.due("parameters of " + made, made.getParameterCount() <= 7 ? 1 : 0, 1);
        }
    }
}
