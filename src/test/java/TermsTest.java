/** The terms of surfaces, rectangles and operations: each sentence that names a bound, at that bound. */
public final class TermsTest {
    private static final int NONE = BlitBoard.NONE;
    private static final int LEAST = Integer.MIN_VALUE;
    private static final int MOST = Integer.MAX_VALUE;
    private static final int[] DEPTHS = {1, 4, 8};

    /** The calls that draw; all are set to put the number 5 on every place that they reach. */
    private static final String[] KINDS = {"fill", "copy", "keyed", "masked", "spread", "draw"};
    private static final int FILL = 0;
    private static final int COPY = 1;
    private static final int KEYED = 2;
    private static final int MASKED = 3;
    private static final int SPREAD = 4;
    private static final int DRAW = 5;

    private final Answers answers;

    private TermsTest(Answers answers) {
        this.answers = answers;
    }

    public static void main(String[] args) {
        Answers answers = new Answers();
        TermsTest test = new TermsTest(answers);
        test.surfacesAreNumberedFromZero();
        test.surfacesHaveOneToSixtyFourPlaces();
        test.dotsAreBelowTwoToTheDepth();
        test.dotsAreZeroAtFirst();
        test.placesGoRightAndDown();
        test.clipIsAllAtFirst();
        test.onlyTheClipIsDrawnOn();
        test.rectanglesBeginAnywhere();
        test.rectanglesBeginFarAway();
        test.rectanglesThatEndFarAway();
        test.rectanglesOfEachSize();
        test.onlyPlacesOfBothAreCopied();
        test.dotsAreTakenAsBefore();
        test.operationsTakeEachBit();
        test.operationsThatAreNamed();
        answers.end();
    }

    /** Surface 0 has only 5s, 1 is drawn on and has only 3s, 2 is a mask of 1s; sprite 0 tells surface 0. */
    private static BlitBoard fives(int wide, int high) {
        BlitBoard board = new BlitBoard();
        board.make(4, wide, high);
        board.make(4, wide, high);
        board.make(1, wide, high);
        board.fill(0, 0, 0, 64, 64, 5, 12);
        board.fill(1, 0, 0, 64, 64, 3, 12);
        board.fill(2, 0, 0, 64, 64, 1, 12);
        board.tell(0, 0, 0);
        return board;
    }

    private static int drawn(BlitBoard board, int kind, int wide, int high, int u, int v) {
        switch (kind) {
            case FILL: return board.fill(1, u, v, wide, high, 5, 12);
            case COPY: return board.copy(0, 0, 0, wide, high, 1, u, v, 12);
            case KEYED: return board.keyed(0, 0, 0, wide, high, 1, u, v, 0);
            case MASKED: return board.masked(0, 0, 0, wide, high, 1, u, v, 2);
            case SPREAD: return board.spread(2, 0, 0, wide, high, 1, u, v, 9, 5);
            default: return board.draw(0, 1, u, v);
        }
    }

    /** "SURFACES are numbered from 0, at most 8" */
    private void surfacesAreNumberedFromZero() {
        BlitBoard board = new BlitBoard();
        for (int k = 0; k < 8; k++) {
            answers.due("no surface yet: " + k, board.told(k, 0), NONE);
            answers.due("surface " + k, board.make(DEPTHS[k % 3], 8 - k, k + 1), k);
            answers.due("wide of surface " + k, board.told(k, 1), 8 - k);
        }
        answers.due("a ninth", board.make(1, 1, 1), NONE);
        for (int k = 0; k < 8; k++) {
            answers.due("depth of " + k + " after a ninth", board.told(k, 0), DEPTHS[k % 3]);
            answers.due("high of " + k + " after a ninth", board.told(k, 2), k + 1);
        }
        BlitBoard full = new BlitBoard();
        for (int k = 0; k < 8; k++) {
            answers.due("as large as can be, " + k, full.make(8, 64, 64), k);
            answers.due("fill as large as can be, " + k, full.fill(k, 0, 0, 64, 64, 248 + k, 12), 4096);
        }
        for (int k = 0; k < 8; k++) {
            answers.due("dots of " + k, full.count(k, 248 + k), 4096);
        }
        answers.due("a ninth as large as can be", full.make(8, 64, 64), NONE);
    }

    /** "1 to 64 wide and high" */
    private void surfacesHaveOneToSixtyFourPlaces() {
        for (int side = 1; side <= 64; side++) {
            BlitBoard board = new BlitBoard();
            answers.due("make " + side + " wide", board.make(8, side, 1), 0);
            answers.due("make " + side + " high", board.make(8, 1, side), 1);
            answers.due("its last dot", board.set(0, side - 1, 0, 255), 1);
            answers.due("its last dot", board.set(1, 0, side - 1, 255), 1);
            answers.due("no dot beyond", board.set(0, side, 0, 255), 0);
            answers.due("no dot beyond", board.set(1, 0, side, 255), 0);
            answers.due("one dot of 255", board.count(0, 255), 1);
            answers.due("one dot of 255", board.count(1, 255), 1);
            answers.due("all others are 0", board.count(0, 0), side - 1);
            answers.due("all others are 0", board.count(1, 0), side - 1);
        }
    }

    /** "its DOTS have numbers from 0 below 2 to the depth" */
    private void dotsAreBelowTwoToTheDepth() {
        for (int depth : DEPTHS) {
            for (int v = -1; v <= 1 << depth; v++) {
                boolean fits = v >= 0 && v < 1 << depth;
                BlitBoard board = new BlitBoard();
                board.make(depth, 1, 1);
                board.set(0, 0, 0, 1);
                answers.due("set " + v + " on depth " + depth, board.set(0, 0, 0, v), fits ? 1 : 0);
                answers.due("get " + v + " on depth " + depth, board.get(0, 0, 0), fits ? v : 1);
            }
        }
        BlitBoard board = new BlitBoard();
        for (int depth : DEPTHS) {
            int k = board.make(depth, 1, 1);
            answers.due("fill the last that fits", board.fill(k, 0, 0, 1, 1, (1 << depth) - 1, 12), 1);
            answers.due("fill the first that does not", board.fill(k, 0, 0, 1, 1, 1 << depth, 12), NONE);
            answers.due("the last that fits stays", board.get(k, 0, 0), (1 << depth) - 1);
        }
    }

    /** "at first all are 0" */
    private void dotsAreZeroAtFirst() {
        BlitBoard board = new BlitBoard();
        for (int k = 0; k < 8; k++) {
            board.make(DEPTHS[k % 3], 64, 64);
            answers.due("all are 0 at first, " + k, board.count(k, 0), 4096);
            board.fill(k, 0, 0, 64, 64, 1, 12);
        }
    }

    /** "Places: x from 0 to the right, y from 0 down" */
    private void placesGoRightAndDown() {
        BlitBoard board = new BlitBoard();
        board.make(4, 3, 2);
        board.set(0, 2, 0, 1);
        board.set(0, 0, 1, 2);
        answers.dueDots("places", board, 0, "001", "200");
        BlitBoard large = new BlitBoard();
        large.make(8, 64, 64);
        large.set(0, 0, 0, 77);
        int[][] places = {
            {64, -1}, {-64, 1}, {128, -2}, {0, 1 << 26}, {0, -(1 << 26)}, {1 << 6, (1 << 26) - 1}, {0, 64}, {64, 0},
            {LEAST, LEAST}, {LEAST, 1 << 25}, {256, 0}, {65536, 0}, {0, 65536}};
        for (int[] place : places) {
            String call = place[0] + ", " + place[1];
            answers.due("no place " + call, large.get(0, place[0], place[1]), NONE);
            answers.due("no place " + call, large.set(0, place[0], place[1], 1), 0);
        }
        answers.due("the first place", large.get(0, 0, 0), 77);
        answers.due("no other place", large.count(0, 0), 4095);
    }

    /** "Each has a CLIP, a rectangle of places; at first all of it" */
    private void clipIsAllAtFirst() {
        int[][] sizes = {{1, 1}, {64, 64}, {1, 64}, {64, 1}, {7, 3}};
        for (int[] size : sizes) {
            BlitBoard board = new BlitBoard();
            board.make(4, size[0], size[1]);
            int[] want = {0, 0, size[0], size[1]};
            for (int k = 0; k < 4; k++) {
                answers.due("clip at first, " + (3 + k), board.told(0, 3 + k), want[k]);
            }
            answers.due("all can be drawn on", board.fill(0, 0, 0, 64, 64, 1, 12), size[0] * size[1]);
            answers.due("all was drawn on", board.count(0, 1), size[0] * size[1]);
        }
    }

    /** "What is drawn on a surface changes dots within its clip alone": the clip in every place and size */
    private void onlyTheClipIsDrawnOn() {
        for (int kind = 0; kind < KINDS.length; kind++) {
            for (int x = -1; x <= 5; x++) {
                for (int y = -1; y <= 4; y++) {
                    for (int size = 0; size < 12; size++) {
                        dueInClip(kind, x, y, size % 4, size / 4);
                    }
                }
            }
        }
    }

    private void dueInClip(int kind, int x, int y, int wide, int high) {
        BlitBoard board = fives(5, 4);
        int open = board.clip(1, x, y, wide, high);
        String call = KINDS[kind] + " within the clip " + x + ", " + y + ", " + wide + ", " + high;
        answers.due(call, drawn(board, kind, 5, 4, 0, 0), kind == DRAW ? 0 : open);
        for (int k = 0; k < 20; k++) {
            int column = k % 5;
            int row = k / 5;
            boolean within = column >= x && column < x + wide && row >= y && row < y + high;
            answers.due(call + ": dot " + column + ", " + row, board.get(1, column, row), within ? 5 : 3);
        }
    }

    /** "told by its least x and y (any numbers)": around the edges, for what is drawn */
    private void rectanglesBeginAnywhere() {
        int[] near = {-65, -64, -63, -32, -1, 0, 1, 32, 62, 63, 64, 65};
        for (int kind = 0; kind < KINDS.length; kind++) {
            for (int u : near) {
                for (int v : near) {
                    BlitBoard board = fives(64, 64);
                    int dots = Math.max(0, 64 - Math.abs(u)) * Math.max(0, 64 - Math.abs(v));
                    String call = KINDS[kind] + " 64 wide and high at " + u + ", " + v;
                    answers.due(call, drawn(board, kind, 64, 64, u, v), kind == DRAW ? 0 : dots);
                    answers.due(call + ": drawn", board.count(1, 5), dots);
                    dueCorner(call, board, Math.max(0, u), Math.max(0, v), dots);
                    dueCorner(call, board, Math.min(63, 63 + u), Math.min(63, 63 + v), dots);
                }
            }
        }
    }

    private void dueCorner(String call, BlitBoard board, int x, int y, int dots) {
        if (dots > 0) {
            answers.due(call + ": corner " + x + ", " + y, board.get(1, x, y), 5);
        }
    }

    /** "any numbers": nothing is drawn from far away, and no place wraps around */
    private void rectanglesBeginFarAway() {
        int[] far = {
            LEAST, LEAST + 1, LEAST + 63, LEAST + 64, LEAST + 65, -(1 << 30), -(1 << 26), -65536, -256, 256, 65536,
            1 << 26, 1 << 30, MOST - 64, MOST - 63, MOST - 62, MOST - 1, MOST};
        for (int kind = 0; kind < KINDS.length; kind++) {
            for (int at : far) {
                BlitBoard board = fives(64, 64);
                String call = KINDS[kind] + " at " + at;
                answers.due(call + ", 0", drawn(board, kind, 64, 64, at, 0), 0);
                answers.due("0, " + call, drawn(board, kind, 64, 64, 0, at), 0);
                for (int other : far) {
                    answers.due(call + ", " + other, drawn(board, kind, 64, 64, at, other), 0);
                }
                answers.due(call + ": nothing is drawn", board.count(1, 3), 4096);
            }
        }
        for (int x : far) {
            BlitBoard board = fives(64, 64);
            answers.due("clip at x " + x, board.clip(1, x, 0, 64, 64), 0);
            answers.due("clip at y " + x, board.clip(1, 0, x, 64, 64), 0);
            for (int y : far) {
                answers.due("clip at " + x + ", " + y, board.clip(1, x, y, 64, 64), 0);
            }
            answers.due("clip of all", board.clip(1, 0, 0, 64, 64), 4096);
        }
    }

    /** A rectangle to be copied begins far away, or comes there, or both: no dot is copied. */
    private void rectanglesThatEndFarAway() {
        int[] far = {LEAST, LEAST + 1, LEAST + 63, -65, -64, 64, 65, MOST - 63, MOST - 62, MOST - 1, MOST};
        for (int at : far) {
            for (int other : far) {
                BlitBoard board = fives(64, 64);
                int[][] ends = {
                    {at, 0, other, 0}, {0, at, 0, other}, {at, 0, 0, other}, {0, at, other, 0},
                    {at, other, 0, 0}, {0, 0, at, other}, {at, at, other, other}};
                for (int[] e : ends) {
                    String call = " from " + e[0] + ", " + e[1] + " to " + e[2] + ", " + e[3];
                    answers.due("copy" + call, board.copy(0, e[0], e[1], 64, 64, 1, e[2], e[3], 12), 0);
                    answers.due("keyed" + call, board.keyed(0, e[0], e[1], 64, 64, 1, e[2], e[3], 0), 0);
                    answers.due("masked" + call, board.masked(0, e[0], e[1], 64, 64, 1, e[2], e[3], 2), 0);
                    answers.due("spread" + call, board.spread(2, e[0], e[1], 64, 64, 1, e[2], e[3], 5, 5), 0);
                }
                answers.due("nothing is copied", board.count(1, 3), 4096);
            }
        }
    }

    /** "how wide and high it is (0 to 64)" */
    private void rectanglesOfEachSize() {
        for (int kind = 0; kind < DRAW; kind++) {
            for (int side = -1; side <= 65; side++) {
                boolean taken = side >= 0 && side <= 64;
                BlitBoard wide = fives(64, 64);
                String call = KINDS[kind] + " " + side;
                answers.due(call + " wide", drawn(wide, kind, side, 64, 0, 0), taken ? 64 * side : NONE);
                answers.due(call + " wide: drawn", wide.count(1, 5), taken ? 64 * side : 0);
                BlitBoard high = fives(64, 64);
                answers.due(call + " high", drawn(high, kind, 64, side, 0, 0), taken ? 64 * side : NONE);
                answers.due(call + " high: drawn", high.count(1, 5), taken ? 64 * side : 0);
            }
        }
        BlitBoard board = fives(64, 64);
        for (int side = -1; side <= 65; side++) {
            boolean taken = side >= 0 && side <= 64;
            answers.due("clip wide " + side, board.clip(1, 0, 0, side, 64), taken ? 64 * side : NONE);
            answers.due("clip high " + side, board.clip(1, 0, 0, 64, side), taken ? 64 * side : NONE);
        }
    }

    /** "only those dots are copied that are places of the first one, and come to places within the clip" */
    private void onlyPlacesOfBothAreCopied() {
        for (int kind = COPY; kind <= SPREAD; kind++) {
            for (int x = -4; x <= 4; x++) {
                for (int u = -6; u <= 6; u++) {
                    dueOfBoth(kind, x, u, true);
                    dueOfBoth(kind, x, u, false);
                }
            }
        }
    }

    /** The first one is 3 wide and high, the second one's clip is 2 to 5 of 7, the rectangle is 4 by 1 or 1 by 4. */
    private void dueOfBoth(int kind, int x, int u, boolean across) {
        BlitBoard board = new BlitBoard();
        board.make(1, 3, 3);
        board.make(1, 7, 7);
        board.make(1, 64, 64);
        board.fill(0, 0, 0, 3, 3, 1, 12);
        board.fill(2, 0, 0, 64, 64, 1, 12);
        board.clip(1, 2, 2, 4, 4);
        int[] r = across ? new int[] {x, 1, 4, 1, u, 3} : new int[] {1, x, 1, 4, 3, u};
        int got = copied(board, kind, r);
        int dots = 0;
        String call = KINDS[kind] + " " + java.util.Arrays.toString(r);
        for (int k = 0; k < 7; k++) {
            int from = k - u + x;
            boolean came = k >= u && k < u + 4 && from >= 0 && from < 3 && k >= 2 && k < 6;
            dots += came ? 1 : 0;
            int dot = across ? board.get(1, k, 3) : board.get(1, 3, k);
            answers.due(call + ": dot " + k, dot, came ? 1 : 0);
        }
        answers.due(call, got, dots);
        answers.due(call + ": no other", board.count(1, 1), dots);
    }

    private static int copied(BlitBoard board, int kind, int[] r) {
        switch (kind) {
            case COPY: return board.copy(0, r[0], r[1], r[2], r[3], 1, r[4], r[5], 12);
            case KEYED: return board.keyed(0, r[0], r[1], r[2], r[3], 1, r[4], r[5], 0);
            case MASKED: return board.masked(0, r[0], r[1], r[2], r[3], 1, r[4], r[5], 2);
            default: return board.spread(0, r[0], r[1], r[2], r[3], 1, r[4], r[5], 0, 1);
        }
    }

    /** "(or within one)", "dots are taken as they were before the call": each call, each way to move by up to 2 */
    private void dotsAreTakenAsBefore() {
        String[] rows = {"011010", "110010", "001101", "101110"};
        for (int kind = COPY; kind <= SPREAD; kind++) {
            for (int move = 0; move < 25; move++) {
                dueWithinOne(kind, move % 5 - 2, move / 5 - 2, rows);
            }
        }
    }

    private void dueWithinOne(int kind, int right, int down, String[] rows) {
        BlitBoard board = new BlitBoard();
        board.make(1, 6, 4);
        Answers.paint(board, 0, rows);
        String call = KINDS[kind] + " within one by " + right + ", " + down;
        int dots = (6 - Math.abs(right)) * (4 - Math.abs(down));
        answers.due(call, movedWithinOne(board, kind, right, down), dots);
        for (int k = 0; k < 24; k++) {
            int x = k % 6;
            int y = k / 6;
            int there = rows[y].charAt(x) - '0';
            boolean came = x - right >= 0 && x - right < 6 && y - down >= 0 && y - down < 4;
            int comes = came ? rows[y - down].charAt(x - right) - '0' : 0;
            int due = came ? becomes(kind, comes, there) : there;
            answers.due(call + ": dot " + x + ", " + y, board.get(0, x, y), due);
        }
    }

    private static int movedWithinOne(BlitBoard board, int kind, int right, int down) {
        switch (kind) {
            case COPY: return board.copy(0, 0, 0, 6, 4, 0, right, down, 6);
            case KEYED: return board.keyed(0, 0, 0, 6, 4, 0, right, down, 1);
            case MASKED: return board.masked(0, 0, 0, 6, 4, 0, right, down, 0);
            default: return board.spread(0, 0, 0, 6, 4, 0, right, down, 1, 0);
        }
    }

    private static int becomes(int kind, int comes, int there) {
        switch (kind) {
            case COPY: return comes ^ there;
            case KEYED: return comes == 1 ? there : comes;
            case MASKED: return comes == 1 ? 1 : there;
            default: return 1 - comes;
        }
    }

    /** "for each bit of a dot ... the new one is bit 2 s + d of the operation" */
    private void operationsTakeEachBit() {
        for (int depth : DEPTHS) {
            for (int operation = 0; operation < 16; operation++) {
                for (int bit = 0; bit < depth; bit++) {
                    dueOfBit(depth, operation, bit);
                }
            }
        }
    }

    private void dueOfBit(int depth, int operation, int bit) {
        BlitBoard board = new BlitBoard();
        board.make(depth, 4, 1);
        board.make(depth, 4, 1);
        board.make(depth, 4, 1);
        int others = operation & 1;
        int due = 0;
        for (int k = 0; k < depth; k++) {
            due += others << k;
        }
        for (int pair = 0; pair < 4; pair++) {
            board.set(0, pair, 0, (pair >> 1) << bit);
            board.set(1, pair, 0, (pair & 1) << bit);
            board.set(2, pair, 0, (pair & 1) << bit);
        }
        String call = "operation " + operation + ", bit " + bit + " of " + depth;
        answers.due(call + ": copy", board.copy(0, 0, 0, 4, 1, 1, 0, 0, operation), 4);
        answers.due(call + ": fill", board.fill(2, 0, 0, 2, 1, 0, operation), 2);
        answers.due(call + ": fill", board.fill(2, 2, 0, 2, 1, 1 << bit, operation), 2);
        for (int pair = 0; pair < 4; pair++) {
            int dot = due + ((((operation >> pair) & 1) - others) << bit);
            answers.due(call + ": copied " + pair, board.get(1, pair, 0), dot);
            answers.due(call + ": filled " + pair, board.get(2, pair, 0), dot);
        }
        answers.due(call + ": check", board.check(), 1);
    }

    /** "12: s; 10: d; 6: one of both alone"; the least and the most: no bit at all, and all bits of a dot */
    private void operationsThatAreNamed() {
        for (int depth : DEPTHS) {
            int all = (1 << depth) - 1;
            int s = 0xCA & all;
            int d = 0x69 & all;
            int[] operations = {12, 10, 6, 0, 15, 3, 5};
            int[] dots = {s, d, s ^ d, 0, all, all - s, all - d};
            for (int k = 0; k < operations.length; k++) {
                BlitBoard board = new BlitBoard();
                board.make(depth, 2, 1);
                board.set(0, 0, 0, d);
                board.set(0, 1, 0, s);
                answers.due("copy by " + operations[k], board.copy(0, 1, 0, 1, 1, 0, 0, 0, operations[k]), 1);
                answers.due("copied by " + operations[k], board.get(0, 0, 0), dots[k]);
                answers.due("the one that came stays", board.get(0, 1, 0), s);
                board.set(0, 0, 0, d);
                answers.due("fill by " + operations[k], board.fill(0, 0, 0, 1, 1, s, operations[k]), 1);
                answers.due("filled by " + operations[k], board.get(0, 0, 0), dots[k]);
            }
        }
    }
}
