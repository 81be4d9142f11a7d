/**
 * Every sentence that tells when a call is refused: what the call answers, that nothing has changed, and that the
 * last value before the refused ones is still taken.
 */
public final class RefusedTest {
    private static final int NONE = BlitBoard.NONE;
    private static final int LEAST = Integer.MIN_VALUE;
    private static final int MOST = Integer.MAX_VALUE;

    /** The scene has surfaces 0 to 5, sprites 0 to 3. */
    private static final int[] NO_SURFACES = {LEAST, -8, -1, 6, 7, 8, 9, 256, MOST};
    private static final int[] NO_SPRITES = {LEAST, -4, -1, 4, 5, 256, MOST};
    private static final int[] NO_SIDES = {LEAST, -65, -64, -1, 65, 66, 128, 256, MOST};
    private static final int[] NO_OPERATIONS = {LEAST, -12, -1, 16, 17, 28, 256, MOST};

    /** Two surfaces of each depth, by the place of the depth among 1, 4, 8. */
    private static final int[] DEPTHS = {1, 4, 8};
    private static final int[] FIRST = {0, 1, 2};
    private static final int[] SECOND = {4, 3, 5};

    private final Answers answers;
    private final Twins twins;

    private RefusedTest(Answers answers) {
        this.answers = answers;
        twins = new Twins(answers, RefusedTest::scene);
    }

    public static void main(String[] args) {
        Answers answers = new Answers();
        RefusedTest test = new RefusedTest(answers);
        test.makeOfNoDepth();
        test.makeOfNoSide();
        test.makeOfANinth();
        test.clipOfNone();
        test.setOfNone();
        test.setOfWhatDoesNotFit();
        test.looksChangeNothing();
        test.fillOfNone();
        test.copiesOfNoSurface();
        test.copiesOfNoSide();
        test.copiesOfOtherDepths();
        test.copyByNoOperation();
        test.keyedWithNoKey();
        test.maskedByNoMask();
        test.spreadOfWhatDoesNotFit();
        test.spreadFromDeeperOnes();
        test.turnOfNone();
        test.tellOfNone();
        test.loadOfNone();
        test.forgetOfNone();
        test.drawOfNone();
        test.drawOfWhatCanNotStand();
        test.refusedWhereNoDotIs();
        answers.end();
    }

    private static BlitBoard scene() {
        BlitBoard board = new BlitBoard();
        board.make(1, 5, 3);
        board.make(4, 5, 3);
        board.make(8, 5, 3);
        board.make(4, 4, 4);
        board.make(1, 3, 2);
        board.make(8, 5, 3);
        Answers.paint(board, 0, "10110", "01101", "11001");
        Answers.paint(board, 1, "12345", "6789a", "bcdef");
        Answers.paint(board, 3, "0f0f", "1e1e", "2d2d", "3c3c");
        Answers.paint(board, 4, "011", "110");
        for (int k = 0; k < 15; k++) {
            board.set(2, k % 5, k / 5, 255 - k);
            board.set(5, k % 5, k / 5, 100 + k);
        }
        board.clip(1, 1, 1, 3, 2);
        board.clip(5, 0, 1, 5, 2);
        Answers.loadBytes(board, 0, 66, 1, 0, 0);
        Answers.loadBytes(board, 1, 65, 1, 0, 129, 64);
        Answers.loadBytes(board, 3, 1, 65, 200, 0);
        return board;
    }

    /** "NONE when the depth is not 1, 4 or 8" */
    private void makeOfNoDepth() {
        for (int depth = -9; depth <= 33; depth++) {
            int made = depth;
            if (depth == 1 || depth == 4 || depth == 8) {
                twins.changed("make depth " + depth, 6, board -> board.make(made, 2, 2));
            } else {
                twins.same("make depth " + depth, NONE, board -> board.make(made, 2, 2));
            }
        }
        int[] far = {LEAST, LEAST + 1, LEAST + 4, LEAST + 8, 256, 257, 260, 264, MOST};
        for (int depth : far) {
            twins.same("make depth " + depth, NONE, board -> board.make(depth, 2, 2));
        }
    }

    /** "wide or high not 1 .. 64" */
    private void makeOfNoSide() {
        for (int side : NO_SIDES) {
            twins.same("make wide " + side, NONE, board -> board.make(8, side, 1));
            twins.same("make high " + side, NONE, board -> board.make(8, 1, side));
        }
        twins.same("make 0 wide", NONE, board -> board.make(4, 0, 1));
        twins.same("make 0 high", NONE, board -> board.make(4, 1, 0));
        twins.same("make of no dots", NONE, board -> board.make(4, 0, 0));
        twins.same("make -1 wide and high", NONE, board -> board.make(4, -1, -1));
        twins.changed("make 1 wide", 6, board -> board.make(1, 1, 2));
        twins.changed("make 1 high", 6, board -> board.make(1, 2, 1));
        twins.changed("make 64 wide", 6, board -> board.make(1, 64, 1));
        twins.changed("make 64 high", 6, board -> board.make(1, 1, 64));
    }

    /** "or there are 8" */
    private void makeOfANinth() {
        Twins seven = new Twins(answers, () -> small(7));
        Twins eight = new Twins(answers, () -> small(8));
        for (int depth : DEPTHS) {
            seven.changed("make the eighth of depth " + depth, 7, board -> board.make(depth, 1, 1));
            eight.same("make a ninth of depth " + depth, NONE, board -> board.make(depth, 1, 1));
        }
        eight.same("make a ninth as large as can be", NONE, board -> board.make(8, 64, 64));
        seven.same("make a wrong one when one is left", NONE, board -> board.make(2, 1, 1));
        eight.same("make a ninth after a ninth", NONE, board -> Math.max(board.make(1, 1, 1), board.make(1, 1, 1)));
    }

    private static BlitBoard small(int surfaces) {
        BlitBoard board = new BlitBoard();
        for (int k = 0; k < surfaces; k++) {
            board.make(DEPTHS[k % 3], 2, 2);
            board.set(k, 1, 0, 1);
        }
        return board;
    }

    /** "NONE when there is no such surface, or wide or high is not 0 .. 64" */
    private void clipOfNone() {
        for (int surface : NO_SURFACES) {
            twins.same("clip of " + surface, NONE, board -> board.clip(surface, 0, 0, 1, 1));
        }
        for (int side : NO_SIDES) {
            twins.same("clip wide " + side, NONE, board -> board.clip(1, 0, 0, side, 1));
            twins.same("clip high " + side, NONE, board -> board.clip(1, 0, 0, 1, side));
        }
        twins.changed("clip 0 wide", 0, board -> board.clip(1, 0, 0, 0, 1));
        twins.changed("clip 0 high", 0, board -> board.clip(1, 0, 0, 1, 0));
        twins.changed("clip 64 wide", 5, board -> board.clip(1, 0, 0, 64, 1));
        twins.changed("clip 64 high", 3, board -> board.clip(1, 0, 0, 1, 64));
        twins.changed("clip of the last surface", 1, board -> board.clip(5, 0, 0, 1, 1));
    }

    /** "0, and nothing is done, when there is no such surface or place" */
    private void setOfNone() {
        for (int surface : NO_SURFACES) {
            twins.same("set on " + surface, 0, board -> board.set(surface, 0, 0, 1));
        }
        int[][] places = {
            {-1, 0}, {5, 0}, {0, -1}, {0, 3}, {5, -1}, {-5, 1}, {4, 3}, {5, 2}, {-1, 1}, {-1, -1}, {5, 3},
            {LEAST, 0}, {MOST, 0}, {0, LEAST}, {0, MOST}, {LEAST, LEAST}, {MOST, MOST}, {256, 0}, {0, 256}};
        for (int[] place : places) {
            String call = "set " + place[0] + ", " + place[1];
            twins.same(call, 0, board -> board.set(2, place[0], place[1], 1));
        }
        twins.changed("set the first place", 1, board -> board.set(2, 0, 0, 1));
        twins.changed("set the last place", 1, board -> board.set(2, 4, 2, 1));
        twins.changed("set on the last surface", 1, board -> board.set(5, 0, 0, 1));
    }

    /** "or the number does not fit its depth" */
    private void setOfWhatDoesNotFit() {
        for (int k = 0; k < 3; k++) {
            int surface = FIRST[k];
            int largest = (1 << DEPTHS[k]) - 1;
            for (int v : notFitting(k)) {
                twins.same("set " + v + " on depth " + DEPTHS[k], 0, board -> board.set(surface, 1, 0, v));
            }
            String call = "set " + largest + " on depth " + DEPTHS[k];
            if (k < 2) {
                twins.changed(call, 1, board -> board.set(surface, 1, 0, largest));
            } else {
                twins.changed(call, 1, board -> board.set(surface, 1, 1, largest));
            }
        }
        twins.changed("set 0", 1, board -> board.set(1, 0, 0, 0));
    }

    private static int[] notFitting(int k) {
        int first = 1 << DEPTHS[k];
        return new int[] {LEAST, -256, -first, -1, first, first + 1, 2 * first, 256, 512, 65536, MOST};
    }

    /** get, told, count, part and check tell, and change nothing, whether there is such a thing or not. */
    private void looksChangeNothing() {
        twins.same("get", 7, board -> board.get(1, 1, 1));
        twins.same("told", 3, board -> board.told(1, 5));
        twins.same("count", 1, board -> board.count(1, 7));
        twins.same("part", 66, board -> board.part(0, 0));
        twins.same("check", 1, BlitBoard::check);
        for (int none : NO_SURFACES) {
            twins.same("get of " + none, NONE, board -> board.get(none, 0, 0));
            twins.same("told of " + none, NONE, board -> board.told(none, 0));
            twins.same("count of " + none, NONE, board -> board.count(none, 0));
        }
        int[] noWhat = {LEAST, -1, 7, 8, 256, MOST};
        for (int what : noWhat) {
            twins.same("told " + what, NONE, board -> board.told(0, what));
        }
        int[][] places = {{-1, 0}, {5, 0}, {0, -1}, {0, 3}, {5, -1}, {-5, 1}, {LEAST, MOST}, {MOST, LEAST}};
        for (int[] place : places) {
            twins.same("get " + place[0] + ", " + place[1], NONE, board -> board.get(0, place[0], place[1]));
        }
        for (int none : NO_SPRITES) {
            twins.same("part of " + none, NONE, board -> board.part(none, 0));
        }
        int[] noPart = {LEAST, -1, 4, 5, 4999, 5000, MOST};
        for (int k : noPart) {
            twins.same("part " + k, NONE, board -> board.part(0, k));
        }
    }

    /** "NONE when there is no such surface or operation, wide or high is not 0 .. 64, or the number does not fit" */
    private void fillOfNone() {
        for (int surface : NO_SURFACES) {
            twins.same("fill " + surface, NONE, board -> board.fill(surface, 0, 0, 5, 3, 1, 12));
        }
        for (int operation : NO_OPERATIONS) {
            twins.same("fill by " + operation, NONE, board -> board.fill(1, 0, 0, 5, 3, 0, operation));
        }
        for (int side : NO_SIDES) {
            twins.same("fill wide " + side, NONE, board -> board.fill(1, 0, 0, side, 3, 0, 12));
            twins.same("fill high " + side, NONE, board -> board.fill(1, 0, 0, 5, side, 0, 12));
        }
        for (int k = 0; k < 3; k++) {
            int surface = FIRST[k];
            for (int v : notFitting(k)) {
                String call = "fill depth " + DEPTHS[k] + " with " + v;
                twins.same(call, NONE, board -> board.fill(surface, 0, 0, 5, 3, v, 12));
            }
            int largest = (1 << DEPTHS[k]) - 1;
            int dots = k == 1 ? 6 : 15;
            twins.changed("fill with " + largest, dots, board -> board.fill(surface, 0, 0, 5, 3, largest, 12));
            twins.changed("fill with 0", dots, board -> board.fill(surface, 0, 0, 5, 3, 0, 12));
        }
        twins.changed("fill by 0", 6, board -> board.fill(1, 0, 0, 5, 3, 0, 0));
        twins.changed("fill by 15", 6, board -> board.fill(1, 0, 0, 5, 3, 0, 15));
        twins.changed("fill 64 wide and high", 6, board -> board.fill(1, 0, 0, 64, 64, 0, 12));
        twins.same("fill 0 wide", 0, board -> board.fill(1, 0, 0, 0, 64, 0, 12));
        twins.same("fill 0 high", 0, board -> board.fill(1, 0, 0, 64, 0, 0, 12));
        twins.changed("fill the last surface", 10, board -> board.fill(5, 0, 0, 5, 3, 0, 12));
    }

    private static final String[] KINDS = {"copy", "keyed", "masked", "spread"};

    /** One of the four kinds of copies, with an operation, key, mask or numbers that are as they must be. */
    private static int copied(BlitBoard board, int kind, int from, int to, int wide, int high) {
        switch (kind) {
            case 0: return board.copy(from, 0, 0, wide, high, to, 0, 0, 12);
            case 1: return board.keyed(from, 0, 0, wide, high, to, 0, 0, 1);
            case 2: return board.masked(from, 0, 0, wide, high, to, 0, 0, 0);
            default: return board.spread(from, 0, 0, wide, high, to, 0, 0, 1, 0);
        }
    }

    /** "NONE when there are no such surfaces" */
    private void copiesOfNoSurface() {
        for (int kind = 0; kind < 4; kind++) {
            int made = kind;
            for (int none : NO_SURFACES) {
                twins.same(KINDS[kind] + " from " + none, NONE, board -> copied(board, made, none, 0, 5, 3));
                twins.same(KINDS[kind] + " to " + none, NONE, board -> copied(board, made, 0, none, 5, 3));
                twins.same(KINDS[kind] + " within " + none, NONE, board -> copied(board, made, none, none, 5, 3));
            }
            twins.changed(KINDS[kind] + " to the first", 6, board -> copied(board, made, 4, 0, 5, 3));
            twins.changed(KINDS[kind] + " from the first", 6, board -> copied(board, made, 0, 4, 5, 3));
        }
        for (int kind = 0; kind < 3; kind++) {
            int made = kind;
            twins.changed(KINDS[kind] + " to the last", 10, board -> copied(board, made, 2, 5, 5, 3));
            twins.changed(KINDS[kind] + " from the last", 15, board -> copied(board, made, 5, 2, 5, 3));
        }
        twins.changed("spread to the last", 10, board -> copied(board, 3, 0, 5, 5, 3));
    }

    /** "wide or high is not 0 .. 64" */
    private void copiesOfNoSide() {
        for (int kind = 0; kind < 4; kind++) {
            int made = kind;
            for (int side : NO_SIDES) {
                twins.same(KINDS[kind] + " wide " + side, NONE, board -> copied(board, made, 4, 0, side, 3));
                twins.same(KINDS[kind] + " high " + side, NONE, board -> copied(board, made, 4, 0, 5, side));
            }
            twins.same(KINDS[kind] + " 0 wide", 0, board -> copied(board, made, 4, 0, 0, 3));
            twins.same(KINDS[kind] + " 0 high", 0, board -> copied(board, made, 4, 0, 5, 0));
            twins.same(KINDS[kind] + " 0 wide and high", 0, board -> copied(board, made, 4, 0, 0, 0));
            twins.changed(KINDS[kind] + " 64 wide", 6, board -> copied(board, made, 4, 0, 64, 2));
            twins.changed(KINDS[kind] + " 64 high", 6, board -> copied(board, made, 4, 0, 3, 64));
        }
    }

    /** "or their depths are not the same", and keyed and masked likewise */
    private void copiesOfOtherDepths() {
        for (int kind = 0; kind < 3; kind++) {
            int made = kind;
            for (int from = 0; from < 3; from++) {
                for (int to = 0; to < 3; to++) {
                    int first = FIRST[from];
                    int second = SECOND[to];
                    String call = KINDS[kind] + " from depth " + DEPTHS[from] + " to " + DEPTHS[to];
                    if (from == to) {
                        int dots = from == 0 ? 6 : from == 1 ? 12 : 10;
                        twins.changed(call, dots, board -> copied(board, made, first, second, 5, 3));
                    } else {
                        twins.same(call, NONE, board -> copied(board, made, first, second, 5, 3));
                        twins.same(call + " of no dots", NONE, board -> copied(board, made, first, second, 0, 0));
                    }
                }
            }
        }
    }

    /** "NONE when there are no such surfaces or operation" */
    private void copyByNoOperation() {
        for (int operation : NO_OPERATIONS) {
            twins.same("copy by " + operation, NONE, board -> board.copy(3, 0, 0, 4, 3, 1, 0, 0, operation));
        }
        twins.changed("copy by 0", 6, board -> board.copy(3, 0, 0, 4, 3, 1, 0, 0, 0));
        twins.changed("copy by 15", 6, board -> board.copy(3, 0, 0, 4, 3, 1, 0, 0, 15));
        twins.same("copy by 10", 6, board -> board.copy(3, 0, 0, 4, 3, 1, 0, 0, 10));
    }

    /** "NONE likewise, or when the key does not fit" */
    private void keyedWithNoKey() {
        for (int k = 0; k < 3; k++) {
            int from = SECOND[k];
            int to = FIRST[k];
            int dots = k == 2 ? 15 : 6;
            for (int key : notFitting(k)) {
                String call = "keyed of depth " + DEPTHS[k] + " with " + key;
                twins.same(call, NONE, board -> board.keyed(from, 0, 0, 5, 3, to, 0, 0, key));
                twins.same(call + " of no dots", NONE, board -> board.keyed(from, 0, 0, 0, 0, to, 0, 0, key));
            }
            int largest = (1 << DEPTHS[k]) - 1;
            twins.changed("keyed with " + largest, dots, board -> board.keyed(from, 0, 0, 5, 3, to, 0, 0, largest));
            twins.changed("keyed with 0", dots, board -> board.keyed(from, 0, 0, 5, 3, to, 0, 0, 0));
        }
    }

    /** "NONE likewise, or when there is no such mask"; a mask is "a surface of depth 1" */
    private void maskedByNoMask() {
        for (int mask : NO_SURFACES) {
            twins.same("masked by " + mask, NONE, board -> board.masked(3, 0, 0, 4, 4, 1, 0, 0, mask));
            twins.same("masked by " + mask, NONE, board -> board.masked(3, 0, 0, 0, 0, 1, 0, 0, mask));
        }
        int[] deeper = {1, 2, 3, 5};
        for (int mask : deeper) {
            twins.same("masked by deeper " + mask, NONE, board -> board.masked(3, 0, 0, 4, 4, 1, 0, 0, mask));
            twins.same("masked by deeper " + mask, NONE, board -> board.masked(4, 0, 0, 3, 2, 0, 0, 0, mask));
        }
        twins.changed("masked by the first", 6, board -> board.masked(3, 0, 0, 4, 4, 1, 0, 0, 0));
        twins.changed("masked by another", 6, board -> board.masked(3, 0, 0, 4, 4, 1, 0, 0, 4));
    }

    /** "or zero or one does not fit": the depth of the one that is drawn on is what counts */
    private void spreadOfWhatDoesNotFit() {
        for (int k = 0; k < 3; k++) {
            int to = SECOND[k];
            int dots = k == 0 ? 6 : k == 1 ? 12 : 10;
            for (int v : notFitting(k)) {
                String wrong = "spread to depth " + DEPTHS[k] + ", with " + v;
                twins.same(wrong + " for 0", NONE, board -> board.spread(0, 0, 0, 5, 3, to, 0, 0, v, 1));
                twins.same(wrong + " for 1", NONE, board -> board.spread(0, 0, 0, 5, 3, to, 0, 0, 1, v));
                twins.same(wrong + " for both", NONE, board -> board.spread(0, 0, 0, 5, 3, to, 0, 0, v, v));
                twins.same(wrong + " of no dots", NONE, board -> board.spread(0, 0, 0, 0, 0, to, 0, 0, v, v));
            }
            int largest = (1 << DEPTHS[k]) - 1;
            String call = "spread " + largest;
            twins.changed(call + " for 0", dots, board -> board.spread(0, 0, 0, 5, 3, to, 0, 0, largest, 0));
            twins.changed(call + " for 1", dots, board -> board.spread(0, 0, 0, 5, 3, to, 0, 0, 0, largest));
        }
        twins.same("a one that is nowhere must fit too", NONE, board -> board.spread(0, 1, 0, 1, 1, 4, 0, 0, 0, 2));
        twins.same("a zero that is nowhere must fit too", NONE, board -> board.spread(0, 0, 0, 1, 1, 4, 0, 0, 2, 0));
    }

    /** "Copies from a surface of depth 1" */
    private void spreadFromDeeperOnes() {
        int[] deeper = {1, 2, 3, 5};
        for (int from : deeper) {
            for (int to = 0; to < 6; to++) {
                int on = to;
                String call = "spread from deeper " + from + " to " + to;
                twins.same(call, NONE, board -> board.spread(from, 0, 0, 5, 3, on, 0, 0, 0, 1));
            }
        }
    }

    /** "0 when there is no such surface or way" */
    private void turnOfNone() {
        for (int surface : NO_SURFACES) {
            twins.same("turn " + surface + ", 0", 0, board -> board.turn(surface, 0));
            twins.same("turn " + surface + ", 1", 0, board -> board.turn(surface, 1));
        }
        int[] noWays = {LEAST, -2, -1, 2, 3, 256, MOST};
        for (int way : noWays) {
            twins.same("turn 0, " + way, 0, board -> board.turn(0, way));
        }
        twins.changed("turn 0, 0", 1, board -> board.turn(0, 0));
        twins.changed("turn 0, 1", 1, board -> board.turn(0, 1));
        twins.changed("turn the last, 0", 1, board -> board.turn(5, 0));
        twins.changed("turn the last, 1", 1, board -> board.turn(5, 1));
    }

    /** "NONE, and nothing is done, when there is no such sprite or surface" */
    private void tellOfNone() {
        for (int sprite : NO_SPRITES) {
            twins.same("tell " + sprite, NONE, board -> board.tell(sprite, 0, 0));
        }
        for (int surface : NO_SURFACES) {
            for (int sprite = 0; sprite < 4; sprite++) {
                int into = sprite;
                twins.same("tell surface " + surface, NONE, board -> board.tell(into, surface, 0));
            }
        }
        twins.changed("tell the first sprite", 9, board -> board.tell(0, 4, 0));
        twins.changed("tell the last sprite", 9, board -> board.tell(3, 4, 0));
        twins.changed("tell the last surface", 21, board -> board.tell(2, 5, 0));
    }

    /** "NONE, and nothing is done, when there is no such sprite, n is not 1 .. 8" */
    private void loadOfNone() {
        for (int sprite : NO_SPRITES) {
            twins.same("load " + sprite, NONE, board -> board.load(sprite, 1, 1));
        }
        int[] noNumbers = {LEAST, -8, -1, 0, 9, 10, 16, 64, 256, MOST};
        for (int n : noNumbers) {
            for (int sprite = 0; sprite < 4; sprite++) {
                int into = sprite;
                twins.same("load " + n, NONE, board -> board.load(into, 0x4101, n));
            }
        }
        twins.changed("load 1", 5, board -> board.load(0, 0x4101, 1));
        twins.changed("load 8", 12, board -> board.load(0, 0x4101, 8));
        twins.changed("load the last sprite", 5, board -> board.load(3, 0x4101, 1));
    }

    /** "NONE when there is no such sprite" */
    private void forgetOfNone() {
        for (int sprite : NO_SPRITES) {
            twins.same("forget " + sprite, NONE, board -> board.forget(sprite));
        }
        twins.same("forget an empty one", 0, board -> board.forget(2));
        twins.changed("forget the first", 4, board -> board.forget(0));
        twins.changed("forget the last", 4, board -> board.forget(3));
    }

    /** "NONE when there is no such sprite or surface" */
    private void drawOfNone() {
        for (int sprite : NO_SPRITES) {
            twins.same("draw " + sprite, NONE, board -> board.draw(sprite, 0, 0, 0));
        }
        for (int surface : NO_SURFACES) {
            for (int sprite = 0; sprite < 4; sprite++) {
                int drawn = sprite;
                twins.same("draw on " + surface, NONE, board -> board.draw(drawn, surface, 0, 0));
            }
        }
        twins.changed("draw on the first", 0, board -> board.draw(0, 0, 0, 1));
        twins.changed("draw on the last", 0, board -> board.draw(3, 5, 0, 1));
        twins.same("draw an empty one", 0, board -> board.draw(2, 0, 0, 0));
    }

    /** "Otherwise nothing is drawn": neither what stands before the wrong byte nor what stands behind it */
    private void drawOfWhatCanNotStand() {
        int[][] sprites = {
            {65, 1, 0, 64, 0, 65, 1, 0}, {65, 1, 128, 1, 0, 65, 1, 0}, {65, 1, 0, 192, 0, 65, 1, 0},
            {65, 1, 0, 255, 0}, {65, 1, 0, 65}, {65, 1, 0, 66, 1}, {65, 1, 0, 129}, {65, 1, 0, 129, 1},
            {65, 1, 0, 5}, {129, 1, 63, 1, 0}, {129, 1, 63, 65, 1, 0}, {129, 1, 63, 129, 1, 0}};
        int[] places = {4, 3, 4, 4, 5, 6, 5, 6, 5, 4, 4, 4};
        for (int k = 0; k < sprites.length; k++) {
            int[] bytes = sprites[k];
            Twins loaded = new Twins(answers, () -> {
                BlitBoard board = scene();
                Answers.loadBytes(board, 2, bytes);
                return board;
            });
            for (int surface = 0; surface < 6; surface++) {
                int on = surface;
                String call = "draw " + java.util.Arrays.toString(bytes) + " on " + on;
                loaded.same(call, places[k], board -> board.draw(2, on, 0, 1));
                loaded.same(call + " beyond it", places[k], board -> board.draw(2, on, 64, -64));
            }
        }
        twins.same("draw 200 on depth 1", 3, board -> board.draw(3, 0, 0, 1));
        twins.same("draw 200 on depth 4", 3, board -> board.draw(3, 1, 0, 1));
        twins.changed("draw 200 on depth 8", 0, board -> board.draw(3, 2, 0, 1));
    }

    /** A call that is refused is so wherever its rectangle lies, and whatever the clip is. */
    private void refusedWhereNoDotIs() {
        int[] far = {LEAST, -64, 5, MOST};
        for (int at : far) {
            twins.same("clip far away", NONE, board -> board.clip(1, at, at, 65, 1));
            twins.same("fill far away by 16", NONE, board -> board.fill(1, at, at, 1, 1, 1, 16));
            twins.same("fill far away with 16", NONE, board -> board.fill(1, at, at, 1, 1, 16, 12));
            twins.same("fill far away 65 wide", NONE, board -> board.fill(1, at, at, 65, 1, 1, 12));
            twins.same("copy far away by 16", NONE, board -> board.copy(3, at, at, 1, 1, 1, 0, 0, 16));
            twins.same("copy to far away by -1", NONE, board -> board.copy(3, 0, 0, 1, 1, 1, at, at, -1));
            twins.same("copy far away 65 high", NONE, board -> board.copy(3, at, at, 1, 65, 1, at, at, 12));
            twins.same("keyed far away with 16", NONE, board -> board.keyed(3, at, at, 1, 1, 1, 0, 0, 16));
            twins.same("masked far away by 1", NONE, board -> board.masked(3, at, at, 1, 1, 1, 0, 0, 1));
            twins.same("spread far away with 16", NONE, board -> board.spread(0, at, at, 1, 1, 1, 0, 0, 16, 0));
        }
        Twins closed = new Twins(answers, () -> {
            BlitBoard board = scene();
            board.clip(1, 0, 0, 0, 0);
            return board;
        });
        closed.same("fill by 16 within no clip", NONE, board -> board.fill(1, 0, 0, 5, 3, 1, 16));
        closed.same("copy by 16 within no clip", NONE, board -> board.copy(3, 0, 0, 4, 4, 1, 0, 0, 16));
        closed.same("keyed with 16 within no clip", NONE, board -> board.keyed(3, 0, 0, 4, 4, 1, 0, 0, 16));
        closed.same("masked by 1 within no clip", NONE, board -> board.masked(3, 0, 0, 4, 4, 1, 0, 0, 1));
        closed.same("spread with 16 within no clip", NONE, board -> board.spread(0, 0, 0, 5, 3, 1, 0, 0, 0, 16));
        closed.same("draw 200 within no clip", 3, board -> board.draw(3, 1, 0, 0));
        closed.same("draw within no clip", 0, board -> board.draw(0, 1, 0, 0));
    }
}
