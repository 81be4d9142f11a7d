import java.lang.reflect.Array;
import java.lang.reflect.Constructor;
import java.lang.reflect.Field;

/** Promise 19: check answers 1 after every kind of call that changes dots or clips; "it would tell 0". */
public final class CheckTest {
    private static final int MOST = Integer.MAX_VALUE;

    public static void main(String[] args) throws ReflectiveOperationException {
        Answers answers = new Answers();
        operations(answers);
        clips(answers);
        refused(answers);
        brokenDots(answers);
        brokenClips(answers);
        answers.end();
    }

    private static void operations(Answers answers) {
        BlitBoard board = new BlitBoard();
        answers.due("check of a new object", board.check(), 1);
        int[] depths = {1, 4, 8};
        for (int k = 0; k < 3; k++) {
            board.make(depths[k], 33, 7);
            board.make(depths[k], 64, 64);
        }
        for (int operation = 0; operation < 16; operation++) {
            for (int k = 0; k < 6; k++) {
                board.fill(k, -1, -1, 64, 64, 1, operation);
                board.copy(k, 0, 0, 64, 64, k ^ 1, 3, 2, operation);
                answers.due("check after operation " + operation + " on " + k, board.check(), 1);
            }
        }
    }

    private static void clips(Answers answers) {
        BlitBoard board = new BlitBoard();
        board.make(4, 33, 7);
        int[] places = {Integer.MIN_VALUE, -64, -1, 0, 6, 7, 32, 33, 64, MOST - 63, MOST};
        for (int x : places) {
            for (int y : places) {
                board.clip(0, x, y, 64, 64);
                answers.due("check after clip at " + x + ", " + y, board.check(), 1);
            }
        }
    }

    private static void refused(Answers answers) {
        BlitBoard board = new BlitBoard();
        board.make(1, 9, 9);
        board.make(8, 9, 9);
        board.set(0, 0, 0, 2);
        board.fill(0, 0, 0, 9, 9, 2, 12);
        board.fill(1, 0, 0, 9, 9, 255, 12);
        board.copy(1, 0, 0, 9, 9, 0, 0, 0, 12);
        board.spread(0, 0, 0, 9, 9, 0, 0, 0, 2, 3);
        Answers.loadBytes(board, 0, 65, 2, 0);
        board.draw(0, 0, 0, 0);
        answers.due("check after refused calls", board.check(), 1);
        answers.due("they changed nothing", board.count(0, 0), 81);
    }

    private static Object fieldOf(Object holder, String name) throws ReflectiveOperationException {
        Field field = holder.getClass().getDeclaredField(name);
        field.setAccessible(true);
        return field.get(holder);
    }

    /** No call can break the board, so this reaches into it: the first or last dot of one of eight surfaces. */
    private static void brokenDots(Answers answers) throws ReflectiveOperationException {
        int[] depths = {1, 4, 8};
        for (int depth : depths) {
            int largest = (1 << depth) - 1;
            int[] numbers = {0, largest, largest + 1, 2 * largest, -1, Integer.MIN_VALUE, MOST};
            for (int v : numbers) {
                for (int at = 0; at < 35; at += 34) {
                    boolean sound = v >= 0 && v <= largest;
                    for (int surface = 0; surface < 8; surface++) {
                        BlitBoard board = eight(depth);
                        ((int[]) fieldOf(Array.get(fieldOf(board, "surfaces"), surface), "dots"))[at] = v;
                        answers.due("check with a dot " + v + " of depth " + depth, board.check(), sound ? 1 : 0);
                    }
                }
            }
        }
    }

    private static BlitBoard eight(int depth) {
        BlitBoard board = new BlitBoard();
        for (int k = 0; k < 8; k++) {
            board.make(depth, 7, 5);
        }
        return board;
    }

    private static void brokenClips(Answers answers) throws ReflectiveOperationException {
        int[][] clips = {
            {0, 0, 7, 5, 1}, {6, 4, 1, 1, 1}, {0, 0, 0, 0, 1}, {0, 0, 8, 5, 0}, {0, 0, 7, 6, 0}, {-1, 0, 7, 5, 0},
            {0, -1, 7, 5, 0}, {1, 0, 7, 5, 0}, {0, 1, 7, 5, 0}, {7, 0, 1, 1, 0}, {0, 5, 1, 1, 0}};
        for (int[] clip : clips) {
            BlitBoard board = eight(4);
            Object surface = Array.get(fieldOf(board, "surfaces"), 7);
            Field field = surface.getClass().getDeclaredField("clip");
            field.setAccessible(true);
            Constructor<?> area = field.getType().getDeclaredConstructor(long.class, long.class, int.class, int.class);
            area.setAccessible(true);
            field.set(surface, area.newInstance((long) clip[0], (long) clip[1], clip[2], clip[3]));
            answers.due("check with a clip " + java.util.Arrays.toString(clip), board.check(), clip[4]);
        }
    }
}
