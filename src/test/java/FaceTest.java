import java.lang.reflect.Constructor;
import java.lang.reflect.Field;
import java.lang.reflect.Method;
import java.lang.reflect.Modifier;
import java.util.Arrays;
import java.util.HashSet;
import java.util.Set;
import java.util.TreeSet;

/** The public face: every member of the document, and no other that is not private. */
public final class FaceTest {
    private static final Set<String> FACE = new TreeSet<>(Arrays.asList(
        "make 3", "clip 5", "set 4", "get 3", "told 2", "fill 7", "copy 9", "keyed 9", "masked 9", "spread 10",
        "turn 2", "count 2", "tell 3", "load 3", "forget 1", "part 2", "draw 4", "check 0"));

    public static void main(String[] args) {
        Answers answers = new Answers();
        Class<?> board = BlitBoard.class;
        answers.due("public and final", board.getModifiers(), Modifier.PUBLIC | Modifier.FINAL);
        answers.due("NONE", BlitBoard.NONE, -1);
        methods(answers, board);
        constructors(answers, board);
        fields(answers, board);
        answers.end();
    }

    private static void methods(Answers answers, Class<?> board) {
        Set<String> seen = new TreeSet<>();
        Set<String> own = new HashSet<>();
        for (Method method : board.getDeclaredMethods()) {
            if (Modifier.isPrivate(method.getModifiers())) {
                own.add(method.getName());
                answers.due("parameters of " + method.getName(), method.getParameterCount() <= 7 ? 1 : 0, 1);
                continue;
            }
            seen.add(method.getName() + " " + method.getParameterCount());
            answers.due(method + " is public", method.getModifiers(), Modifier.PUBLIC);
            answers.due(method + " answers int", method.getReturnType() == int.class ? 1 : 0, 1);
            parameters(answers, method);
        }
        answers.due("methods: " + seen, seen.equals(FACE) ? 1 : 0, 1);
        for (String call : FACE) {
            String name = call.substring(0, call.indexOf(' '));
            answers.due("a private method named " + name, own.contains(name) ? 1 : 0, 0);
        }
    }

    private static void parameters(Answers answers, Method method) {
        Class<?>[] types = method.getParameterTypes();
        for (int k = 0; k < types.length; k++) {
            boolean wide = method.getName().equals("load") && k == 1;
            answers.due(method + " parameter " + k, types[k] == (wide ? long.class : int.class) ? 1 : 0, 1);
        }
    }

    private static void constructors(Answers answers, Class<?> board) {
        Constructor<?>[] made = board.getDeclaredConstructors();
        answers.due("constructors", made.length, 1);
        answers.due("its parameters", made[0].getParameterCount(), 0);
        answers.due("it is public", made[0].getModifiers(), Modifier.PUBLIC);
    }

    private static void fields(Answers answers, Class<?> board) {
        for (Field field : board.getDeclaredFields()) {
            boolean shown = !Modifier.isPrivate(field.getModifiers());
            answers.due("not private: " + field, shown ? 1 : 0, field.getName().equals("NONE") ? 1 : 0);
        }
    }
}
