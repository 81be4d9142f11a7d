/** Promise 19: check answers 1 after every kind of call that changes dots or clips. */
public final class CheckTest {
    private static final int MOST = Integer.MAX_VALUE;

    public static void main(String[] args) {
        Answers answers = new Answers();
        operations(answers);
        clips(answers);
        refused(answers);
        answers.end();
    }

    private static void operations(Answers answers) {
        BlitBoard board = new BlitBoard();
        answers.due("check of a new object", board.check(), 1);
        int[] depths = {1, 4, 8};
        for (int k = 0; k < 3; k++) {
            board.make(depths[k], 33, 7);
            board.make(depths[k], 64, 64);
        }
        for (int operation = 0; operation < 16; operation++) {
            for (int k = 0; k < 6; k++) {
                board.fill(k, -1, -1, 64, 64, 1, operation);
                board.copy(k, 0, 0, 64, 64, k ^ 1, 3, 2, operation);
                answers.due("check after operation " + operation + " on " + k, board.check(), 1);
            }
        }
    }

    private static void clips(Answers answers) {
        BlitBoard board = new BlitBoard();
        board.make(4, 33, 7);
        int[] places = {Integer.MIN_VALUE, -64, -1, 0, 6, 7, 32, 33, 64, MOST - 63, MOST};
        for (int x : places) {
            for (int y : places) {
                board.clip(0, x, y, 64, 64);
                answers.due("check after clip at " + x + ", " + y, board.check(), 1);
            }
        }
    }

    private static void refused(Answers answers) {
        BlitBoard board = new BlitBoard();
        board.make(1, 9, 9);
        board.make(8, 9, 9);
        board.set(0, 0, 0, 2);
        board.fill(0, 0, 0, 9, 9, 2, 12);
        board.fill(1, 0, 0, 9, 9, 255, 12);
        board.copy(1, 0, 0, 9, 9, 0, 0, 0, 12);
        board.spread(0, 0, 0, 9, 9, 0, 0, 0, 2, 3);
        Answers.loadBytes(board, 0, 65, 2, 0);
        board.draw(0, 0, 0, 0);
        answers.due("check after refused calls", board.check(), 1);
        answers.due("they changed nothing", board.count(0, 0), 81);
    }
}
