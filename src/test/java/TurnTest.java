/** Promises 12 and 13: turn, count. */
public final class TurnTest {
    private static final int NONE = BlitBoard.NONE;
    private static final int LEAST = Integer.MIN_VALUE;
    private static final int MOST = Integer.MAX_VALUE;

    public static void main(String[] args) {
        Answers answers = new Answers();
        turns(answers);
        turnsOfEdges(answers);
        turnsWrong(answers);
        counts(answers);
        answers.end();
    }

    private static void turns(Answers answers) {
        BlitBoard board = new BlitBoard();
        board.make(4, 5, 3);
        board.make(4, 4, 4);
        Answers.paint(board, 0, "12345", "6789a", "bcdef");
        Answers.paint(board, 1, "0123", "4567", "89ab", "cdef");
        answers.due("turn 0, 0", board.turn(0, 0), 1);
        answers.dueDots("turn 0, 0", board, 0, "54321", "a9876", "fedcb");
        answers.due("turn 0, 1", board.turn(0, 1), 1);
        answers.dueDots("turn 0, 1", board, 0, "fedcb", "a9876", "54321");
        answers.dueDots("the other stays", board, 1, "0123", "4567", "89ab", "cdef");
        board.clip(1, 1, 1, 1, 2);
        answers.due("turn 1, 0", board.turn(1, 0), 1);
        answers.dueDots("turn 1, 0 with a clip", board, 1, "3210", "7654", "ba98", "fedc");
        board.clip(1, 0, 0, 0, 0);
        answers.due("turn 1, 1", board.turn(1, 1), 1);
        answers.dueDots("turn 1, 1 without a clip", board, 1, "fedc", "ba98", "7654", "3210");
        board.clip(1, 0, 1, 1, 2);
        board.turn(1, 0);
        answers.due("the clip does not turn", board.told(1, 3), 0);
        board.turn(1, 1);
        answers.due("the clip does not turn", board.told(1, 4), 1);
    }

    private static void turnsOfEdges(Answers answers) {
        BlitBoard board = new BlitBoard();
        board.make(8, 64, 64);
        board.make(1, 1, 1);
        board.make(4, 1, 2);
        board.set(0, 0, 0, 255);
        board.turn(0, 0);
        answers.due("64 wide", board.get(0, 63, 0), 255);
        board.turn(0, 1);
        answers.due("64 high", board.get(0, 63, 63), 255);
        answers.due("no dot more", board.count(0, 0), 4095);
        board.set(1, 0, 0, 1);
        answers.due("turn one dot", board.turn(1, 0), 1);
        answers.due("turn one dot", board.turn(1, 1), 1);
        answers.due("one dot", board.get(1, 0, 0), 1);
        board.set(2, 0, 0, 8);
        answers.due("turn a column", board.turn(2, 0), 1);
        answers.dueDots("turn a column", board, 2, "8", "0");
        answers.due("turn a column", board.turn(2, 1), 1);
        answers.dueDots("turn a column", board, 2, "0", "8");
    }

    private static void turnsWrong(Answers answers) {
        BlitBoard board = new BlitBoard();
        answers.due("turn without surfaces", board.turn(0, 0), 0);
        board.make(4, 3, 2);
        Answers.paint(board, 0, "123", "456");
        int[] wrong = {LEAST, -1, 2, 3, MOST};
        for (int k : wrong) {
            answers.due("turn 0, " + k, board.turn(0, k), 0);
            answers.due("turn " + k + ", 0", board.turn(k, 0), 0);
            answers.due("turn " + k + ", 1", board.turn(k, 1), 0);
        }
        answers.dueDots("turns wrong", board, 0, "123", "456");
    }

    private static void counts(Answers answers) {
        BlitBoard board = new BlitBoard();
        answers.due("count without surfaces", board.count(0, 0), NONE);
        board.make(4, 4, 2);
        board.make(8, 64, 64);
        Answers.paint(board, 0, "0f1f", "ff20");
        answers.due("count 0", board.count(0, 0), 2);
        answers.due("count 15", board.count(0, 15), 4);
        answers.due("count 2", board.count(0, 2), 1);
        answers.due("count 3", board.count(0, 3), 0);
        answers.due("count 16", board.count(0, 16), 0);
        answers.due("count -1", board.count(0, -1), 0);
        answers.due("count least", board.count(0, LEAST), 0);
        answers.due("count most", board.count(0, MOST), 0);
        board.clip(0, 0, 0, 0, 0);
        answers.due("count whatever the clip is", board.count(0, 15), 4);
        answers.due("count all", board.count(1, 0), 4096);
        board.set(1, 63, 63, 255);
        answers.due("count 255", board.count(1, 255), 1);
        int[] wrong = {LEAST, -1, 2, 8, MOST};
        for (int surface : wrong) {
            answers.due("count of " + surface, board.count(surface, 0), NONE);
        }
    }
}
