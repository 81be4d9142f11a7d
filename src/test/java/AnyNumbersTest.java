import java.lang.reflect.InvocationTargetException;
import java.lang.reflect.Method;
import java.lang.reflect.Modifier;
import java.util.Arrays;
import java.util.Comparator;
import java.util.Random;

/**
 * Any numbers in any call, in any state: no call throws, each answers within its bounds, and the board stays sound,
 * also beyond the 512th call, where the answers themselves are free.
 */
public final class AnyNumbersTest {
    private static final int RUNS = 400;
    private static final int CALLS = 1500;
    private static final int PROMISED = 512;
    private static final int[] ENDS = {
        Integer.MIN_VALUE, Integer.MIN_VALUE + 1, Integer.MIN_VALUE + 63, -(1 << 26), -65, -64, -63, -1, 0, 1, 2, 3, 4,
        5, 7, 8, 9, 12, 15, 16, 62, 63, 64, 65, 128, 255, 256, 4999, 5000, 1 << 26, Integer.MAX_VALUE - 63,
        Integer.MAX_VALUE - 1, Integer.MAX_VALUE};
    private static final int[] SMALL = {0, 1, 2, 3, 4, 8, 64};

    public static void main(String[] args) throws IllegalAccessException {
        Answers answers = new Answers();
        Method[] calls = face();
        answers.due("calls of the face", calls.length, 18);
        for (int run = 0; run < RUNS; run++) {
            runOf(answers, calls, new Random(run));
        }
        answers.end();
    }

    private static Method[] face() {
        return Arrays.stream(BlitBoard.class.getDeclaredMethods())
            .filter(method -> Modifier.isPublic(method.getModifiers()))
            .sorted(Comparator.comparing(Method::getName))
            .toArray(Method[]::new);
    }

    private static void runOf(Answers answers, Method[] calls, Random random) throws IllegalAccessException {
        BlitBoard board = new BlitBoard();
        int made = random.nextInt(2) * 4;
        for (int k = 0; k < made; k++) {
            board.make(new int[] {1, 4, 8, 4}[k], 1 + random.nextInt(64), 1 + random.nextInt(64));
        }
        for (int k = made + 1; k <= CALLS; k++) {
            int answer = k == PROMISED ? board.check() : answerOf(answers, calls, board, random);
            if (k <= PROMISED) {
                answers.due("within the bounds of answers", answer >= -1 && answer <= 5001 ? 1 : 0, 1);
            }
            if (k == PROMISED) {
                answers.due("check", answer, 1);
            }
        }
    }

    private static int answerOf(Answers answers, Method[] calls, BlitBoard board, Random random)
            throws IllegalAccessException {
        Method call = calls[random.nextInt(calls.length)];
        Object[] numbers = numbers(call, random);
        try {
            return (Integer) call.invoke(board, numbers);
        } catch (InvocationTargetException thrown) {
            answers.due(call.getName() + Arrays.toString(numbers) + " threw " + thrown.getCause(), 1, 0);
            return 0;
        }
    }

    private static Object[] numbers(Method call, Random random) {
        Class<?>[] types = call.getParameterTypes();
        Object[] numbers = new Object[types.length];
        int ends = random.nextInt(3);
        for (int k = 0; k < types.length; k++) {
            if (types[k] == long.class) {
                numbers[k] = random.nextLong();
            } else if (random.nextInt(3) < ends) {
                numbers[k] = ENDS[random.nextInt(ENDS.length)];
            } else {
                numbers[k] = SMALL[random.nextInt(SMALL.length)];
            }
        }
        return numbers;
    }
}
