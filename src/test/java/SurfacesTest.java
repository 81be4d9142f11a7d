/** Promises 1 to 6: a new object, make, clip, set, get, told. */
public final class SurfacesTest {
    private static final int NONE = BlitBoard.NONE;
    private static final int LEAST = Integer.MIN_VALUE;
    private static final int MOST = Integer.MAX_VALUE;

    public static void main(String[] args) {
        Answers answers = new Answers();
        newObject(answers);
        makeNumbers(answers);
        makeWrong(answers);
        clipParts(answers);
        clipEdges(answers);
        clipWrong(answers);
        setAndGet(answers);
        setWrong(answers);
        told(answers);
        answers.end();
    }

    private static void newObject(Answers answers) {
        BlitBoard board = new BlitBoard();
        for (int k = -1; k <= 8; k++) {
            answers.due("new: surface " + k, board.told(k, 0), NONE);
        }
        for (int k = 0; k < 4; k++) {
            answers.due("new: part of " + k, board.part(k, 0), NONE);
            answers.due("new: forget " + k, board.forget(k), 0);
        }
        answers.due("new: check", board.check(), 1);
        answers.due("new: first surface", board.make(1, 1, 1), 0);
        BlitBoard other = new BlitBoard();
        answers.due("another object has none of it", other.told(0, 0), NONE);
    }

    private static void makeNumbers(Answers answers) {
        BlitBoard board = new BlitBoard();
        int[] depths = {1, 4, 8};
        for (int k = 0; k < 8; k++) {
            int depth = depths[k % 3];
            answers.due("make " + k, board.make(depth, k == 0 ? 64 : k, k == 1 ? 64 : 9 - k), k);
            answers.due("make depth " + k, board.told(k, 0), depth);
            answers.due("make count " + k, board.count(k, 0), (k == 0 ? 64 : k) * (k == 1 ? 64 : 9 - k));
        }
        answers.due("make a ninth", board.make(8, 1, 1), NONE);
        answers.due("make a ninth leaves none", board.told(8, 0), NONE);
        answers.due("make a ninth leaves the eighth", board.told(7, 1), 7);
    }

    private static void makeWrong(Answers answers) {
        BlitBoard board = new BlitBoard();
        int[] depths = {LEAST, -8, -4, -1, 0, 2, 3, 5, 6, 7, 9, 16, 32, MOST};
        for (int depth : depths) {
            answers.due("make depth " + depth, board.make(depth, 3, 3), NONE);
        }
        int[] sides = {LEAST, -64, -1, 0, 65, 128, MOST};
        for (int side : sides) {
            answers.due("make wide " + side, board.make(4, side, 3), NONE);
            answers.due("make high " + side, board.make(4, 3, side), NONE);
        }
        answers.due("make after wrong ones", board.make(8, 64, 64), 0);
    }

    private static void dueClip(Answers answers, BlitBoard board, String call, int... want) {
        for (int k = 0; k < 4; k++) {
            answers.due(call + ": told " + (3 + k), board.told(0, 3 + k), want[k]);
        }
    }

    private static void clipParts(Answers answers) {
        BlitBoard board = new BlitBoard();
        board.make(4, 10, 6);
        dueClip(answers, board, "clip at first", 0, 0, 10, 6);
        answers.due("clip inside", board.clip(0, 2, 1, 5, 3), 15);
        dueClip(answers, board, "clip inside", 2, 1, 5, 3);
        answers.due("clip is not cut by the old one", board.clip(0, -3, -2, 64, 4), 20);
        dueClip(answers, board, "clip at the top", 0, 0, 10, 2);
        answers.due("clip at the corner", board.clip(0, 9, 5, 64, 64), 1);
        dueClip(answers, board, "clip at the corner", 9, 5, 1, 1);
        answers.due("clip of all", board.clip(0, 0, 0, 10, 6), 60);
        dueClip(answers, board, "clip of all", 0, 0, 10, 6);
        answers.due("clip of more than all", board.clip(0, -1, -1, 64, 64), 60);
        dueClip(answers, board, "clip of more than all", 0, 0, 10, 6);
        board.make(4, 10, 6);
        board.clip(0, 1, 1, 1, 1);
        answers.due("clip of the other one", board.told(1, 5), 10);
    }

    private static void clipEdges(Answers answers) {
        BlitBoard board = new BlitBoard();
        board.make(4, 10, 6);
        int[][] empty = {
            {3, 3, 0, 5}, {3, 3, 5, 0}, {0, 0, 0, 0}, {10, 0, 4, 4}, {0, 6, 4, 4}, {-4, 0, 4, 4}, {0, -4, 4, 4},
            {MOST, 0, 64, 64}, {0, MOST, 64, 64}, {LEAST, 0, 64, 64}, {0, LEAST, 64, 64}, {MOST, LEAST, 64, 64},
            {MOST - 62, 2, 64, 1}};
        for (int[] one : empty) {
            board.clip(0, 2, 2, 3, 3);
            String call = "clip " + one[0] + ", " + one[1] + ", " + one[2] + ", " + one[3];
            answers.due(call, board.clip(0, one[0], one[1], one[2], one[3]), 0);
            dueClip(answers, board, call, 0, 0, 0, 0);
        }
        answers.due("nothing is filled within no clip", board.fill(0, 0, 0, 10, 6, 1, 12), 0);
        answers.due("nothing was filled", board.count(0, 0), 60);
        answers.due("clip again", board.clip(0, -1, 5, 2, 1), 1);
        dueClip(answers, board, "clip again", 0, 5, 1, 1);
    }

    private static void clipWrong(Answers answers) {
        BlitBoard board = new BlitBoard();
        board.make(4, 10, 6);
        board.clip(0, 1, 2, 3, 4);
        int[] sides = {LEAST, -1, 65, MOST};
        for (int side : sides) {
            answers.due("clip wide " + side, board.clip(0, 0, 0, side, 1), NONE);
            answers.due("clip high " + side, board.clip(0, 0, 0, 1, side), NONE);
        }
        int[] surfaces = {LEAST, -1, 1, 8, MOST};
        for (int surface : surfaces) {
            answers.due("clip of " + surface, board.clip(surface, 0, 0, 1, 1), NONE);
        }
        dueClip(answers, board, "clip after wrong ones", 1, 2, 3, 4);
    }

    private static void setAndGet(Answers answers) {
        BlitBoard board = new BlitBoard();
        int[] depths = {1, 4, 8};
        for (int k = 0; k < 3; k++) {
            int most = (1 << depths[k]) - 1;
            board.make(depths[k], 64, 64);
            answers.due("get at first", board.get(k, 63, 63), 0);
            answers.due("set the last dot", board.set(k, 63, 63, most), 1);
            answers.due("set a dot", board.set(k, 5, 7, 1), 1);
            answers.due("get the last dot", board.get(k, 63, 63), most);
            answers.due("get a dot", board.get(k, 5, 7), 1);
            answers.due("get its mirror", board.get(k, 7, 5), 0);
            answers.due("set one more than fits", board.set(k, 5, 7, most + 1), 0);
            answers.due("set less than 0", board.set(k, 5, 7, -1), 0);
            answers.due("get what stayed", board.get(k, 5, 7), 1);
            answers.due("set 0", board.set(k, 5, 7, 0), 1);
            answers.due("get 0", board.get(k, 5, 7), 0);
            answers.due("only one is set", board.count(k, 0), 4095);
        }
        board.clip(2, 0, 0, 0, 0);
        answers.due("set beyond the clip", board.set(2, 9, 9, 200), 1);
        answers.due("get beyond the clip", board.get(2, 9, 9), 200);
    }

    private static void setWrong(Answers answers) {
        BlitBoard board = new BlitBoard();
        board.make(8, 10, 6);
        int[][] places = {
            {-1, 0}, {0, -1}, {10, 0}, {0, 6}, {-1, 1}, {10, 5}, {LEAST, 0}, {0, LEAST}, {MOST, 0}, {0, MOST},
            {1 << 30, 1 << 30}, {-10, 1}, {0, 1 << 28}};
        for (int[] place : places) {
            String call = place[0] + ", " + place[1];
            answers.due("set " + call, board.set(0, place[0], place[1], 3), 0);
            answers.due("get " + call, board.get(0, place[0], place[1]), NONE);
        }
        int[] surfaces = {LEAST, -1, 1, 8, MOST};
        for (int surface : surfaces) {
            answers.due("set of " + surface, board.set(surface, 0, 0, 0), 0);
            answers.due("get of " + surface, board.get(surface, 0, 0), NONE);
        }
        int[] numbers = {LEAST, -256, -1, 256, 257, MOST};
        for (int v : numbers) {
            answers.due("set " + v, board.set(0, 0, 0, v), 0);
        }
        answers.due("nothing was set", board.count(0, 0), 60);
    }

    private static void told(Answers answers) {
        BlitBoard board = new BlitBoard();
        board.make(8, 10, 6);
        board.make(1, 64, 1);
        board.clip(0, 4, 3, 5, 2);
        int[] want = {8, 10, 6, 4, 3, 5, 2};
        int[] other = {1, 64, 1, 0, 0, 64, 1};
        for (int what = 0; what < 7; what++) {
            answers.due("told 0, " + what, board.told(0, what), want[what]);
            answers.due("told 1, " + what, board.told(1, what), other[what]);
            answers.due("told 2, " + what, board.told(2, what), NONE);
            answers.due("told -1, " + what, board.told(-1, what), NONE);
        }
        int[] wrong = {LEAST, -1, 7, 8, MOST};
        for (int what : wrong) {
            answers.due("told 0, " + what, board.told(0, what), NONE);
        }
    }
}
