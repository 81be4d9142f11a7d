/** Promise 7: fill, and the sixteen operations. */
public final class FillTest {
    private static final int NONE = BlitBoard.NONE;
    private static final int LEAST = Integer.MIN_VALUE;
    private static final int MOST = Integer.MAX_VALUE;

    public static void main(String[] args) {
        Answers answers = new Answers();
        rectangles(answers);
        operationsOfOneBit(answers);
        operationsOfMoreBits(answers);
        withinTheClip(answers);
        farAway(answers);
        wrong(answers);
        answers.end();
    }

    private static void rectangles(Answers answers) {
        BlitBoard board = new BlitBoard();
        board.make(4, 5, 4);
        answers.due("fill inside", board.fill(0, 1, 1, 2, 2, 7, 12), 4);
        answers.dueDots("fill inside", board, 0, "00000", "07700", "07700", "00000");
        answers.due("fill over the right lower corner", board.fill(0, 4, 3, 64, 64, 15, 12), 1);
        answers.due("fill over the left upper corner", board.fill(0, -2, -3, 3, 5, 2, 12), 2);
        answers.dueDots("fill over corners", board, 0, "20000", "27700", "07700", "0000f");
        answers.due("fill nothing wide", board.fill(0, 1, 1, 0, 3, 7, 12), 0);
        answers.due("fill nothing high", board.fill(0, 1, 1, 3, 0, 7, 12), 0);
        answers.dueDots("fill nothing", board, 0, "20000", "27700", "07700", "0000f");
        answers.due("fill all", board.fill(0, 0, 0, 64, 64, 1, 12), 20);
        answers.due("fill all: 1", board.count(0, 1), 20);
    }

    private static void operationsOfOneBit(Answers answers) {
        for (int operation = 0; operation < 16; operation++) {
            for (int there = 0; there < 2; there++) {
                for (int comes = 0; comes < 2; comes++) {
                    BlitBoard board = new BlitBoard();
                    board.make(1, 3, 1);
                    board.set(0, 1, 0, there);
                    String call = "fill " + comes + " on " + there + " by " + operation;
                    answers.due(call, board.fill(0, 1, 0, 1, 1, comes, operation), 1);
                    answers.due(call, board.get(0, 1, 0), (operation >> (2 * comes + there)) & 1);
                    answers.due(call + ": left", board.get(0, 0, 0), 0);
                    answers.due(call + ": right", board.get(0, 2, 0), 0);
                }
            }
        }
    }

    /** 3 on 5 (in bits 0011 on 0101) has all four pairs. */
    private static void operationsOfMoreBits(Answers answers) {
        for (int operation = 0; operation < 16; operation++) {
            int due = 0;
            if ((operation & 1) != 0) due += 8;
            if ((operation & 2) != 0) due += 4;
            if ((operation & 4) != 0) due += 2;
            if ((operation & 8) != 0) due += 1;
            BlitBoard board = new BlitBoard();
            board.make(4, 1, 1);
            board.set(0, 0, 0, 5);
            board.fill(0, 0, 0, 1, 1, 3, operation);
            answers.due("fill 3 on 5 by " + operation, board.get(0, 0, 0), due);
            board.make(8, 1, 1);
            board.set(1, 0, 0, 0x55);
            board.fill(1, 0, 0, 1, 1, 0x33, operation);
            answers.due("fill 0x33 on 0x55 by " + operation, board.get(1, 0, 0), 17 * due);
            answers.due("check after " + operation, board.check(), 1);
        }
    }

    private static void withinTheClip(Answers answers) {
        BlitBoard board = new BlitBoard();
        board.make(4, 5, 4);
        board.clip(0, 1, 1, 3, 2);
        answers.due("fill within a clip", board.fill(0, 0, 0, 5, 4, 9, 12), 6);
        answers.dueDots("fill within a clip", board, 0, "00000", "09990", "09990", "00000");
        answers.due("fill part of a clip", board.fill(0, 3, 2, 5, 4, 15, 6), 1);
        answers.dueDots("fill part of a clip", board, 0, "00000", "09990", "09960", "00000");
        answers.due("fill beside a clip", board.fill(0, 4, 0, 1, 4, 1, 12), 0);
        answers.due("dots count, changed or not", board.fill(0, 0, 0, 5, 4, 1, 10), 6);
        answers.dueDots("fill by 10", board, 0, "00000", "09990", "09960", "00000");
    }

    private static void farAway(Answers answers) {
        BlitBoard board = new BlitBoard();
        board.make(8, 64, 64);
        int[] far = {LEAST, LEAST + 1, -65, -64, 64, 65, MOST - 63, MOST - 1, MOST};
        for (int place : far) {
            answers.due("fill at x " + place, board.fill(0, place, 0, 64, 64, 1, 12), 0);
            answers.due("fill at y " + place, board.fill(0, 0, place, 64, 64, 1, 12), 0);
        }
        answers.due("nothing filled", board.count(0, 0), 4096);
        answers.due("fill at -63", board.fill(0, -63, -63, 64, 64, 1, 12), 1);
        answers.due("fill at 63", board.fill(0, 63, 63, 64, 64, 255, 12), 1);
        answers.due("first", board.get(0, 0, 0), 1);
        answers.due("last", board.get(0, 63, 63), 255);
    }

    private static void wrong(Answers answers) {
        BlitBoard board = new BlitBoard();
        int[] depths = {1, 4, 8};
        for (int k = 0; k < 3; k++) {
            board.make(depths[k], 5, 4);
            int[] numbers = {LEAST, -1, 1 << depths[k], MOST};
            for (int v : numbers) {
                answers.due("fill with " + v, board.fill(k, 0, 0, 1, 1, v, 12), NONE);
            }
        }
        int[] surfaces = {LEAST, -1, 3, 8, MOST};
        for (int surface : surfaces) {
            answers.due("fill surface " + surface, board.fill(surface, 0, 0, 1, 1, 1, 12), NONE);
        }
        int[] operations = {LEAST, -1, 16, 28, MOST};
        for (int operation : operations) {
            answers.due("fill by " + operation, board.fill(0, 0, 0, 1, 1, 1, operation), NONE);
        }
        int[] sides = {LEAST, -1, 65, MOST};
        for (int side : sides) {
            answers.due("fill wide " + side, board.fill(0, 0, 0, side, 1, 1, 12), NONE);
            answers.due("fill high " + side, board.fill(0, 0, 0, 1, side, 1, 12), NONE);
        }
        answers.due("a wrong number without dots", board.fill(0, 0, 0, 0, 0, 2, 12), NONE);
        for (int k = 0; k < 3; k++) {
            answers.due("wrong ones fill nothing", board.count(k, 0), 20);
        }
    }
}
