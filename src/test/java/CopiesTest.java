/** Promises 8 to 11: copy, keyed, masked, spread. */
public final class CopiesTest {
    private static final int NONE = BlitBoard.NONE;
    private static final int LEAST = Integer.MIN_VALUE;
    private static final int MOST = Integer.MAX_VALUE;
    private static final String[] KINDS = {"copy", "keyed", "masked", "spread"};

    public static void main(String[] args) {
        Answers answers = new Answers();
        copies(answers);
        copyOperations(answers);
        copyWithinOne(answers);
        copyWithinOneByOperation(answers);
        clipsOfBoth(answers);
        keys(answers);
        masks(answers);
        masksThatAreDrawnOn(answers);
        spreads(answers);
        spreadWithinOne(answers);
        wholeSurfaces(answers);
        farAway(answers);
        wrongRectanglesAndSurfaces(answers);
        wrongDepths(answers);
        wrongNumbers(answers);
        answers.end();
    }

    /** One of the four calls, each set to copy every dot as it is between surfaces of depth 1. */
    private static int plain(BlitBoard board, int kind, int[] a) {
        switch (kind) {
            case 0: return board.copy(a[0], a[1], a[2], a[3], a[4], a[5], a[6], a[7], 12);
            case 1: return board.keyed(a[0], a[1], a[2], a[3], a[4], a[5], a[6], a[7], 0);
            case 2: return board.masked(a[0], a[1], a[2], a[3], a[4], a[5], a[6], a[7], 2);
            default: return board.spread(a[0], a[1], a[2], a[3], a[4], a[5], a[6], a[7], 0, 1);
        }
    }

    private static BlitBoard threeSurfaces(int depth, int wide, int high) {
        BlitBoard board = new BlitBoard();
        board.make(depth, wide, high);
        board.make(depth, wide, high);
        board.make(1, 64, 64);
        board.fill(2, 0, 0, 64, 64, 1, 12);
        return board;
    }

    private static void copies(Answers answers) {
        BlitBoard board = threeSurfaces(4, 5, 3);
        Answers.paint(board, 0, "12345", "6789a", "bcdef");
        answers.due("copy", board.copy(0, 1, 0, 3, 2, 1, 2, 1, 12), 6);
        answers.dueDots("copy", board, 1, "00000", "00234", "00789");
        answers.due("copy over the left upper corner", board.copy(0, 3, 1, 2, 2, 1, -1, -1, 12), 1);
        answers.due("copy over the right lower corner", board.copy(0, 0, 0, 5, 3, 1, 4, 2, 12), 1);
        answers.dueDots("copy over corners", board, 1, "f0000", "00234", "00781");
        answers.due("copy from beyond", board.copy(0, -2, -2, 4, 3, 1, 0, 0, 12), 2);
        answers.dueDots("copy from beyond", board, 1, "f0000", "00234", "00121");
        answers.due("copy from beyond to the left", board.copy(0, -2, 2, 4, 9, 1, -1, 1, 12), 2);
        answers.dueDots("copy from beyond to the left", board, 1, "f0000", "0bc34", "00121");
        answers.due("copy nothing wide", board.copy(0, 0, 0, 0, 3, 1, 0, 0, 12), 0);
        answers.due("copy nothing high", board.copy(0, 0, 0, 5, 0, 1, 0, 0, 12), 0);
        answers.dueDots("copy nothing", board, 1, "f0000", "0bc34", "00121");
        answers.dueDots("the first one stays", board, 0, "12345", "6789a", "bcdef");
        answers.due("copy all", board.copy(0, 0, 0, 64, 64, 1, 0, 0, 12), 15);
        answers.dueDots("copy all", board, 1, "12345", "6789a", "bcdef");
    }

    private static void copyOperations(Answers answers) {
        for (int operation = 0; operation < 16; operation++) {
            BlitBoard board = threeSurfaces(1, 4, 1);
            Answers.paint(board, 0, "0011");
            Answers.paint(board, 1, "0101");
            answers.due("copy by " + operation, board.copy(0, 0, 0, 4, 1, 1, 0, 0, operation), 4);
            for (int k = 0; k < 4; k++) {
                answers.due("copy by " + operation + ": dot " + k, board.get(1, k, 0), (operation >> k) & 1);
            }
            board.make(8, 2, 1);
            board.set(3, 0, 0, 0x33);
            board.set(3, 1, 0, 0x55);
            board.copy(3, 0, 0, 1, 1, 3, 1, 0, operation);
            int due = 17 * (Integer.reverse(operation) >>> 28);
            answers.due("copy 0x33 on 0x55 by " + operation, board.get(3, 1, 0), due);
            answers.due("check after " + operation, board.check(), 1);
        }
    }

    private static void copyWithinOne(Answers answers) {
        String[] rows = {"12345", "6789a", "bcdef"};
        int[][] moves = {{1, 0}, {-1, 0}, {0, 1}, {0, -1}, {1, 1}, {-1, -1}, {1, -1}, {-1, 1}};
        for (int[] move : moves) {
            BlitBoard board = threeSurfaces(4, 5, 3);
            Answers.paint(board, 0, rows);
            String call = "copy within one by " + move[0] + ", " + move[1];
            answers.due(call, board.copy(0, 0, 0, 5, 3, 0, move[0], move[1], 12),
                (5 - Math.abs(move[0])) * (3 - Math.abs(move[1])));
            for (int y = 0; y < 3; y++) {
                for (int x = 0; x < 5; x++) {
                    int sx = x - move[0];
                    int sy = y - move[1];
                    boolean came = sx >= 0 && sx < 5 && sy >= 0 && sy < 3;
                    int due = Character.digit(came ? rows[sy].charAt(sx) : rows[y].charAt(x), 16);
                    answers.due(call + ": dot " + x + ", " + y, board.get(0, x, y), due);
                }
            }
        }
    }

    private static void copyWithinOneByOperation(Answers answers) {
        BlitBoard board = threeSurfaces(4, 6, 1);
        Answers.paint(board, 0, "f30c50");
        answers.due("copy by 6", board.copy(0, 0, 0, 5, 1, 0, 1, 0, 6), 5);
        answers.dueDots("copy by 6", board, 0, "fc3c95");
        answers.due("copy by 8", board.copy(0, 1, 0, 5, 1, 0, 0, 0, 8), 5);
        answers.dueDots("copy by 8", board, 0, "c00815");
        answers.due("copy on itself by 6", board.copy(0, 0, 0, 6, 1, 0, 0, 0, 6), 6);
        answers.dueDots("copy on itself by 6", board, 0, "000000");
    }

    /** The first one's clip does not matter, the second one's does. */
    private static void clipsOfBoth(Answers answers) {
        for (int kind = 0; kind < 4; kind++) {
            BlitBoard board = threeSurfaces(1, 6, 4);
            board.fill(0, 0, 0, 6, 4, 1, 12);
            board.clip(0, 0, 0, 0, 0);
            board.clip(1, 1, 1, 3, 2);
            board.clip(2, 0, 0, 1, 1);
            String call = KINDS[kind];
            answers.due(call + " to a clip", plain(board, kind, new int[] {0, 0, 0, 6, 4, 1, 0, 0}), 6);
            answers.dueDots(call + " to a clip", board, 1, "000000", "011100", "011100", "000000");
            board.fill(1, 0, 0, 6, 4, 0, 12);
            answers.due(call + " from beyond to a clip", plain(board, kind, new int[] {0, 5, 3, 9, 9, 1, 3, 2}), 1);
            answers.due(call + " beside a clip", plain(board, kind, new int[] {0, 0, 0, 6, 1, 1, 0, 0}), 0);
            answers.dueDots(call + " from beyond", board, 1, "000000", "000000", "000100", "000000");
            board.clip(1, 0, 0, 0, 0);
            answers.due(call + " to no clip", plain(board, kind, new int[] {0, 0, 0, 6, 4, 1, 0, 0}), 0);
            answers.due(call + " from a clip to itself", plain(board, kind, new int[] {0, 0, 0, 6, 4, 0, 0, 0}), 0);
        }
    }

    private static void keys(Answers answers) {
        BlitBoard board = threeSurfaces(4, 5, 2);
        Answers.paint(board, 0, "10203", "00f00");
        Answers.paint(board, 1, "66666", "77777");
        answers.due("keyed 0", board.keyed(0, 0, 0, 5, 2, 1, 0, 0, 0), 10);
        answers.dueDots("keyed 0", board, 1, "16263", "77f77");
        answers.due("keyed 15", board.keyed(0, 1, 1, 3, 1, 1, 0, 0, 15), 3);
        answers.dueDots("keyed 15", board, 1, "06063", "77f77");
        answers.due("keyed with a key that is not there", board.keyed(0, 0, 0, 5, 2, 1, 0, 0, 9), 10);
        answers.dueDots("keyed 9", board, 1, "10203", "00f00");
        answers.due("keyed within one", board.keyed(1, 0, 0, 5, 2, 1, 1, 0, 0), 8);
        answers.dueDots("keyed within one", board, 1, "11223", "00ff0");
        answers.due("keyed where all have the key", board.keyed(0, 0, 1, 2, 1, 1, 2, 0, 0), 2);
        answers.dueDots("keyed where all have the key", board, 1, "11223", "00ff0");
        board.make(8, 2, 1);
        board.set(3, 0, 0, 255);
        board.set(3, 1, 0, 254);
        answers.due("keyed 255", board.keyed(3, 0, 0, 2, 1, 3, -1, 0, 254), 1);
        answers.due("keyed 254 stays", board.get(3, 0, 0), 255);
        answers.due("keyed 255", board.keyed(3, 0, 0, 2, 1, 3, 1, 0, 254), 1);
        answers.due("keyed 255 comes", board.get(3, 1, 0), 255);
    }

    private static void masks(Answers answers) {
        BlitBoard board = new BlitBoard();
        board.make(4, 5, 3);
        board.make(4, 5, 3);
        board.make(1, 3, 2);
        Answers.paint(board, 0, "12345", "6789a", "bcdef");
        Answers.paint(board, 2, "101", "011");
        answers.due("masked", board.masked(0, 0, 0, 5, 3, 1, 0, 0, 2), 15);
        answers.dueDots("masked, beyond the mask 0", board, 1, "10300", "07800", "00000");
        answers.due("masked, moved", board.masked(0, 1, 0, 4, 2, 1, 0, 1, 2), 8);
        answers.dueDots("masked at places of the first one", board, 1, "10300", "03800", "78000");
        board.clip(2, 0, 0, 0, 0);
        answers.due("masked from beyond", board.masked(0, -2, -1, 5, 3, 1, 2, 0, 2), 2);
        answers.dueDots("masked from beyond", board, 1, "10300", "03801", "78000");
        board.fill(1, 0, 0, 5, 3, 0, 12);
        answers.due("masked from beyond", board.masked(0, -2, -1, 5, 3, 1, 0, 0, 2), 6);
        answers.dueDots("masked from beyond", board, 1, "00000", "00103", "00078");
        answers.due("masked within one", board.masked(0, 0, 0, 3, 2, 0, 1, 1, 2), 6);
        answers.dueDots("masked within one", board, 0, "12345", "6183a", "bc78f");
    }

    /** A mask that is drawn on, or copied from, counts as it was before the call. */
    private static void masksThatAreDrawnOn(Answers answers) {
        BlitBoard board = new BlitBoard();
        board.make(1, 6, 1);
        board.make(1, 6, 1);
        Answers.paint(board, 0, "000000");
        Answers.paint(board, 1, "111100");
        answers.due("masked by what is drawn on", board.masked(0, 0, 0, 6, 1, 1, 1, 0, 1), 5);
        answers.dueDots("masked by what is drawn on", board, 1, "100000");
        Answers.paint(board, 0, "111111");
        Answers.paint(board, 1, "010000");
        answers.due("masked by what is drawn on", board.masked(0, 0, 0, 6, 1, 1, 1, 0, 1), 5);
        answers.dueDots("ones do not open what follows", board, 1, "011000");
        Answers.paint(board, 1, "101000");
        answers.due("masked by itself within itself", board.masked(1, 0, 0, 6, 1, 1, 1, 0, 1), 5);
        answers.dueDots("masked by itself within itself", board, 1, "111100");
    }

    private static void spreads(Answers answers) {
        BlitBoard board = new BlitBoard();
        board.make(1, 4, 2);
        board.make(8, 5, 2);
        board.make(4, 5, 2);
        Answers.paint(board, 0, "0110", "1001");
        answers.due("spread to 8 bits", board.spread(0, 0, 0, 4, 2, 1, 1, 0, 9, 14), 8);
        answers.dueDots("spread to 8 bits", board, 1, "09ee9", "0e99e");
        answers.due("spread 255 and 0", board.spread(0, 1, 0, 3, 1, 1, 0, 0, 255, 0), 3);
        answers.due("spread 0 for 1", board.get(1, 0, 0), 0);
        answers.due("spread 0 for 1", board.get(1, 1, 0), 0);
        answers.due("spread 255 for 0", board.get(1, 2, 0), 255);
        answers.due("spread to 4 bits", board.spread(0, -1, -1, 9, 9, 2, 0, 0, 3, 15), 4);
        answers.dueDots("spread to 4 bits", board, 2, "00000", "03ff3");
        answers.due("spread one number", board.spread(0, 0, 0, 4, 2, 2, 0, 0, 5, 5), 8);
        answers.dueDots("spread one number", board, 2, "55550", "55553");
        answers.due("spread nothing", board.spread(0, 0, 0, 0, 2, 2, 0, 0, 1, 1), 0);
        answers.dueDots("the first one stays", board, 0, "0110", "1001");
    }

    private static void spreadWithinOne(Answers answers) {
        BlitBoard board = new BlitBoard();
        board.make(1, 6, 1);
        Answers.paint(board, 0, "011010");
        answers.due("spread within one", board.spread(0, 0, 0, 6, 1, 0, 1, 0, 1, 0), 5);
        answers.dueDots("spread within one", board, 0, "010010");
        answers.due("spread on itself", board.spread(0, 0, 0, 6, 1, 0, 0, 0, 1, 0), 6);
        answers.dueDots("spread on itself", board, 0, "101101");
    }

    private static void wholeSurfaces(Answers answers) {
        for (int kind = 0; kind < 4; kind++) {
            BlitBoard board = threeSurfaces(1, 64, 64);
            board.fill(0, 0, 0, 64, 64, 1, 12);
            answers.due(KINDS[kind] + " all", plain(board, kind, new int[] {0, 0, 0, 64, 64, 1, 0, 0}), 4096);
            answers.due(KINDS[kind] + " all", board.count(1, 1), 4096);
            answers.due(KINDS[kind] + " all on itself", plain(board, kind, new int[] {1, 0, 0, 64, 64, 1, 0, 0}), 4096);
            answers.due(KINDS[kind] + " all on itself", board.count(1, 1), 4096);
        }
    }

    private static void farAway(Answers answers) {
        int[] far = {LEAST, LEAST + 1, -64, 64, MOST - 63, MOST - 1, MOST};
        for (int kind = 0; kind < 4; kind++) {
            BlitBoard board = threeSurfaces(1, 64, 64);
            board.fill(0, 0, 0, 64, 64, 1, 12);
            for (int place : far) {
                String call = KINDS[kind] + " far away, " + place;
                answers.due(call, plain(board, kind, new int[] {0, place, 0, 64, 64, 1, 0, 0}), 0);
                answers.due(call, plain(board, kind, new int[] {0, 0, place, 64, 64, 1, 0, 0}), 0);
                answers.due(call, plain(board, kind, new int[] {0, 0, 0, 64, 64, 1, place, 0}), 0);
                answers.due(call, plain(board, kind, new int[] {0, 0, 0, 64, 64, 1, 0, place}), 0);
                answers.due(call, plain(board, kind, new int[] {0, place, place, 64, 64, 1, place, place}), 0);
            }
            answers.due(KINDS[kind] + " far away", board.count(1, 0), 4096);
            answers.due(KINDS[kind] + " one corner", plain(board, kind, new int[] {0, 63, -63, 64, 64, 1, 0, -63}), 1);
            answers.due(KINDS[kind] + " one corner", board.get(1, 0, 0), 1);
        }
    }

    private static void wrongRectanglesAndSurfaces(Answers answers) {
        int[] sides = {LEAST, -1, 65, MOST};
        int[] surfaces = {LEAST, -1, 3, 8, MOST};
        for (int kind = 0; kind < 4; kind++) {
            BlitBoard board = threeSurfaces(1, 5, 4);
            board.fill(0, 0, 0, 5, 4, 1, 12);
            for (int side : sides) {
                answers.due(KINDS[kind] + " wide " + side, plain(board, kind, new int[] {0, 0, 0, side, 1, 1, 0, 0}), NONE);
                answers.due(KINDS[kind] + " high " + side, plain(board, kind, new int[] {0, 0, 0, 1, side, 1, 0, 0}), NONE);
            }
            for (int surface : surfaces) {
                answers.due(KINDS[kind] + " from " + surface, plain(board, kind, new int[] {surface, 0, 0, 1, 1, 1, 0, 0}), NONE);
                answers.due(KINDS[kind] + " to " + surface, plain(board, kind, new int[] {0, 0, 0, 1, 1, surface, 0, 0}), NONE);
            }
            answers.due(KINDS[kind] + " wrong copies nothing", board.count(1, 0), 20);
        }
    }

    private static void wrongDepths(Answers answers) {
        BlitBoard board = new BlitBoard();
        int[] depths = {1, 4, 8};
        for (int depth : depths) {
            board.make(depth, 3, 3);
        }
        for (int from = 0; from < 3; from++) {
            for (int to = 0; to < 3; to++) {
                int due = from == to ? 9 : NONE;
                String call = " from depth " + depths[from] + " to " + depths[to];
                answers.due("copy" + call, board.copy(from, 0, 0, 3, 3, to, 0, 0, 12), due);
                answers.due("keyed" + call, board.keyed(from, 0, 0, 3, 3, to, 0, 0, 0), due);
                answers.due("masked" + call, board.masked(from, 0, 0, 3, 3, to, 0, 0, 0), due);
                int spread = board.spread(from, 0, 0, 3, 3, to, 0, 0, 0, 0);
                answers.due("spread" + call, spread, from == 0 ? 9 : NONE);
            }
        }
    }

    private static void wrongNumbers(Answers answers) {
        BlitBoard board = new BlitBoard();
        int[] depths = {1, 4, 8};
        for (int k = 0; k < 3; k++) {
            board.make(depths[k], 3, 3);
            int[] numbers = {LEAST, -1, 1 << depths[k], MOST};
            for (int v : numbers) {
                answers.due("keyed with " + v, board.keyed(k, 0, 0, 1, 1, k, 0, 0, v), NONE);
                answers.due("spread zero " + v, board.spread(0, 0, 0, 1, 1, k, 0, 0, v, 1), NONE);
                answers.due("spread one " + v, board.spread(0, 0, 0, 1, 1, k, 0, 0, 1, v), NONE);
            }
            answers.due("spread what just fits", board.spread(0, 0, 0, 1, 1, k, 0, 0, 0, (1 << depths[k]) - 1), 1);
        }
        int[] operations = {LEAST, -1, 16, 28, MOST};
        for (int operation : operations) {
            answers.due("copy by " + operation, board.copy(0, 0, 0, 1, 1, 0, 0, 0, operation), NONE);
        }
        int[] masks = {LEAST, -1, 1, 2, 3, 8, MOST};
        for (int mask : masks) {
            answers.due("masked by " + mask, board.masked(0, 0, 0, 1, 1, 0, 0, 0, mask), NONE);
            answers.due("masked by " + mask, board.masked(1, 0, 0, 1, 1, 1, 0, 0, mask), NONE);
        }
        for (int k = 0; k < 3; k++) {
            answers.due("wrong numbers change nothing", board.count(k, 0), 9);
        }
    }
}
