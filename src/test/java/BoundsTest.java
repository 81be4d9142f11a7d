/**
 * The promises one by one: each sentence that names the empty, the full or the last of something. What is refused
 * is looked at by RefusedTest, what the terms say by TermsTest and SpriteTermsTest.
 */
public final class BoundsTest {
    private static final int NONE = BlitBoard.NONE;
    private static final int LEAST = Integer.MIN_VALUE;
    private static final int MOST = Integer.MAX_VALUE;
    private static final int[] DEPTHS = {1, 4, 8};

    private final Answers answers;

    private BoundsTest(Answers answers) {
        this.answers = answers;
    }

    public static void main(String[] args) {
        Answers answers = new Answers();
        BoundsTest test = new BoundsTest(answers);
        test.newObjectHasNoSurface();
        test.newObjectHasFourEmptySprites();
        test.newObjectsShareNothing();
        test.clipIsWhatBothHave();
        test.clipKeepsDots();
        test.setReachesBeyondTheClip();
        test.toldOfEachKind();
        test.fillCountsWhatDoesNotChange();
        test.fillOfOneDot();
        test.copyOnItself();
        test.copyCountsWhatDoesNotChange();
        test.keyedCountsTheKeyToo();
        test.keyedWithEachKey();
        test.maskedBeyondTheMask();
        test.maskedDotByDot();
        test.maskedByNothingAndByAll();
        test.maskedByWhatIsDrawnOn();
        test.spreadToEachDepth();
        test.turnOfEachSize();
        test.turnWhateverTheClip();
        test.countOfEachNumber();
        test.tellReplaces();
        test.tellWhateverTheClip();
        test.forgetLeavesNothing();
        test.partOfEachByte();
        test.drawAtEachPlace();
        test.the512thCall();
        answers.end();
    }

    /** Promise 1: "No surfaces" */
    private void newObjectHasNoSurface() {
        Twins fresh = new Twins(answers, BlitBoard::new);
        for (int k = 0; k < 8; k++) {
            int none = k;
            fresh.same("new: clip", NONE, board -> board.clip(none, 0, 0, 1, 1));
            fresh.same("new: set", 0, board -> board.set(none, 0, 0, 0));
            fresh.same("new: get", NONE, board -> board.get(none, 0, 0));
            fresh.same("new: told", NONE, board -> board.told(none, 0));
            fresh.same("new: fill", NONE, board -> board.fill(none, 0, 0, 1, 1, 0, 12));
            fresh.same("new: copy", NONE, board -> board.copy(none, 0, 0, 1, 1, none, 0, 0, 12));
            fresh.same("new: keyed", NONE, board -> board.keyed(none, 0, 0, 1, 1, none, 0, 0, 0));
            fresh.same("new: masked", NONE, board -> board.masked(none, 0, 0, 1, 1, none, 0, 0, none));
            fresh.same("new: spread", NONE, board -> board.spread(none, 0, 0, 1, 1, none, 0, 0, 0, 0));
            fresh.same("new: turn", 0, board -> board.turn(none, 0));
            fresh.same("new: count", NONE, board -> board.count(none, 0));
            fresh.same("new: tell", NONE, board -> board.tell(0, none, 0));
            fresh.same("new: draw", NONE, board -> board.draw(0, none, 0, 0));
        }
        fresh.same("new: check", 1, BlitBoard::check);
        fresh.changed("new: make", 0, board -> board.make(1, 1, 1));
    }

    /** Promise 1: "four sprites without bytes" */
    private void newObjectHasFourEmptySprites() {
        for (int sprite = 0; sprite < 4; sprite++) {
            BlitBoard board = new BlitBoard();
            board.make(8, 1, 1);
            answers.due("new: part of " + sprite, board.part(sprite, 0), NONE);
            answers.due("new: draw " + sprite, board.draw(sprite, 0, 0, 0), 0);
            answers.due("new: forget " + sprite, board.forget(sprite), 0);
            answers.due("new: load " + sprite, board.load(sprite, 9, 1), 1);
        }
        BlitBoard board = new BlitBoard();
        board.make(8, 1, 1);
        answers.due("new: no fifth", board.load(4, 9, 1), NONE);
        answers.due("new: no fifth", board.forget(4), NONE);
        answers.due("new: no fifth", board.draw(4, 0, 0, 0), NONE);
        answers.due("new: no fifth", board.tell(4, 0, 0), NONE);
    }

    private void newObjectsShareNothing() {
        BlitBoard one = new BlitBoard();
        BlitBoard other = new BlitBoard();
        one.make(4, 3, 3);
        one.load(0, 0x4107, 2);
        answers.due("the other has no surface", other.told(0, 0), NONE);
        answers.due("the other has no bytes", other.part(0, 0), NONE);
        other.make(4, 3, 3);
        one.fill(0, 0, 0, 3, 3, 7, 12);
        one.clip(0, 1, 1, 1, 1);
        answers.due("the other's dots", other.count(0, 0), 9);
        answers.due("the other's clip", other.told(0, 5), 3);
    }

    /** Promise 3: "what a rectangle and the surface have both: how many dots that is" */
    private void clipIsWhatBothHave() {
        for (int x = -4; x <= 4; x++) {
            for (int y = -3; y <= 3; y++) {
                for (int wide = 0; wide <= 5; wide++) {
                    BlitBoard board = new BlitBoard();
                    board.make(1, 3, 2);
                    board.clip(0, 1, 1, 1, 1);
                    for (int high = 0; high <= 4; high++) {
                        dueClip(board, x, y, wide, high);
                    }
                }
            }
        }
        BlitBoard board = new BlitBoard();
        board.make(8, 64, 64);
        answers.due("clip of one column", board.clip(0, -63, 0, 64, 64), 64);
        answers.due("clip of one row", board.clip(0, 0, 63, 64, 64), 64);
        answers.due("clip of one dot", board.clip(0, 63, -63, 64, 64), 1);
        answers.due("clip of none", board.clip(0, 64, 0, 64, 64), 0);
        answers.due("clip of none", board.clip(0, 0, -64, 64, 64), 0);
        answers.due("clip of all", board.clip(0, 0, 0, 64, 64), 4096);
    }

    private void dueClip(BlitBoard board, int x, int y, int wide, int high) {
        int left = Math.max(0, x);
        int top = Math.max(0, y);
        int columns = Math.max(0, Math.min(3, x + wide) - left);
        int rows = Math.max(0, Math.min(2, y + high) - top);
        int dots = columns * rows;
        String call = "clip " + x + ", " + y + ", " + wide + ", " + high;
        answers.due(call, board.clip(0, x, y, wide, high), dots);
        int[] want = dots == 0 ? new int[4] : new int[] {left, top, columns, rows};
        for (int k = 0; k < 4; k++) {
            answers.due(call + ": told " + (3 + k), board.told(0, 3 + k), want[k]);
        }
        answers.due(call + ": drawn on", board.fill(0, 0, 0, 64, 64, 1, 6), dots);
    }

    private void clipKeepsDots() {
        BlitBoard board = new BlitBoard();
        board.make(4, 3, 2);
        Answers.paint(board, 0, "123", "456");
        board.clip(0, 1, 1, 1, 1);
        answers.dueDots("a clip changes no dot", board, 0, "123", "456");
        board.clip(0, 0, 0, 0, 0);
        answers.dueDots("a clip of none changes no dot", board, 0, "123", "456");
        board.clip(0, LEAST, MOST, 64, 64);
        answers.dueDots("a clip far away changes no dot", board, 0, "123", "456");
        answers.due("nor the size", board.told(0, 1), 3);
        answers.due("nor the size", board.told(0, 2), 2);
    }

    /** Promise 4: "(whatever the clip is)" */
    private void setReachesBeyondTheClip() {
        int[][] clips = {{0, 0, 0, 0}, {1, 1, 1, 1}, {0, 0, 1, 1}, {2, 1, 1, 1}, {MOST, MOST, 64, 64}};
        for (int[] c : clips) {
            BlitBoard board = new BlitBoard();
            board.make(4, 3, 2);
            board.clip(0, c[0], c[1], c[2], c[3]);
            int wide = board.told(0, 5);
            for (int k = 0; k < 6; k++) {
                answers.due("set whatever the clip is", board.set(0, k % 3, k / 3, k + 1), 1);
                answers.due("get whatever the clip is", board.get(0, k % 3, k / 3), k + 1);
            }
            answers.dueDots("set whatever the clip is", board, 0, "123", "456");
            answers.due("set changes no clip", board.told(0, 5), wide);
        }
    }

    /** Promise 6: "(3 to 6; 0 for a clip without dots)", "NONE when there is none such" */
    private void toldOfEachKind() {
        BlitBoard board = new BlitBoard();
        board.make(1, 64, 1);
        board.make(8, 1, 64);
        board.clip(0, 63, 0, 1, 1);
        board.clip(1, 0, 63, 1, 1);
        int[][] want = {{1, 64, 1, 63, 0, 1, 1}, {8, 1, 64, 0, 63, 1, 1}};
        for (int k = 0; k < 2; k++) {
            for (int what = 0; what < 7; what++) {
                answers.due("told " + k + ", " + what, board.told(k, what), want[k][what]);
            }
            answers.due("told " + k + ", -1", board.told(k, -1), NONE);
            answers.due("told " + k + ", 7", board.told(k, 7), NONE);
        }
        board.clip(0, 63, 0, 0, 1);
        board.clip(1, 0, 63, 1, 0);
        for (int k = 0; k < 2; k++) {
            for (int what = 3; what < 7; what++) {
                answers.due("told of a clip without dots", board.told(k, what), 0);
            }
            answers.due("told of its depth", board.told(k, 0), want[k][0]);
            answers.due("told of its size", board.told(k, 1), want[k][1]);
            answers.due("told of its size", board.told(k, 2), want[k][2]);
        }
    }

    /** Promise 7: "how many dots were within the clip", whether they change or not */
    private void fillCountsWhatDoesNotChange() {
        BlitBoard board = new BlitBoard();
        board.make(4, 6, 5);
        board.clip(0, 1, 1, 4, 3);
        for (int operation = 0; operation < 16; operation++) {
            answers.due("fill all by " + operation, board.fill(0, 0, 0, 6, 5, 0, operation), 12);
            answers.due("fill one by " + operation, board.fill(0, 4, 3, 9, 9, 15, operation), 1);
            answers.due("fill none by " + operation, board.fill(0, 5, 0, 1, 5, 15, operation), 0);
            answers.due("fill nothing by " + operation, board.fill(0, 1, 1, 0, 0, 15, operation), 0);
        }
    }

    private void fillOfOneDot() {
        int[][] corners = {{0, 0}, {63, 0}, {0, 63}, {63, 63}};
        for (int[] corner : corners) {
            BlitBoard board = new BlitBoard();
            board.make(8, 64, 64);
            answers.due("fill one dot", board.fill(0, corner[0], corner[1], 1, 1, 255, 12), 1);
            answers.due("the dot", board.get(0, corner[0], corner[1]), 255);
            answers.due("no other", board.count(0, 0), 4095);
        }
    }

    /** Promise 8: by each operation, a surface on itself without a move: s and d are the same. */
    private void copyOnItself() {
        for (int operation = 0; operation < 16; operation++) {
            BlitBoard board = new BlitBoard();
            board.make(8, 2, 1);
            board.set(0, 0, 0, 0xA5);
            answers.due("copy on itself by " + operation, board.copy(0, 0, 0, 2, 1, 0, 0, 0, operation), 2);
            int zeros = (operation & 1) * 255;
            int ones = (operation >> 3) * 255;
            answers.due("on itself by " + operation, board.get(0, 0, 0), (0xA5 & ones) | (0x5A & zeros));
            answers.due("0 on itself by " + operation, board.get(0, 1, 0), zeros);
        }
    }

    /** Promise 8: "how many dots were copied", whether they change or not */
    private void copyCountsWhatDoesNotChange() {
        BlitBoard board = new BlitBoard();
        board.make(4, 4, 4);
        board.make(4, 6, 5);
        board.clip(1, 1, 1, 4, 3);
        for (int operation = 0; operation < 16; operation++) {
            answers.due("copy by " + operation, board.copy(0, 0, 0, 4, 4, 1, 0, 0, operation), 9);
            answers.due("copy one by " + operation, board.copy(0, 0, 0, 4, 4, 1, 4, 3, operation), 1);
            answers.due("copy none by " + operation, board.copy(0, 0, 0, 4, 4, 1, 5, 0, operation), 0);
            answers.due("copy from beyond by " + operation, board.copy(0, 4, 0, 4, 4, 1, 1, 1, operation), 0);
        }
    }

    /** Promise 9: "How many of the rectangle's dots had places (with the key or not)" */
    private void keyedCountsTheKeyToo() {
        BlitBoard board = new BlitBoard();
        board.make(4, 4, 2);
        board.make(4, 4, 2);
        Answers.paint(board, 0, "5500", "0055");
        Answers.paint(board, 1, "1234", "6789");
        board.clip(1, 0, 0, 3, 2);
        answers.due("keyed where all have the key", board.keyed(0, 0, 0, 2, 1, 1, 0, 0, 5), 2);
        answers.dueDots("all have the key", board, 1, "1234", "6789");
        answers.due("keyed where none has the key", board.keyed(0, 2, 0, 2, 1, 1, 0, 0, 5), 2);
        answers.dueDots("none has the key", board, 1, "0034", "6789");
        answers.due("keyed where some have the key", board.keyed(0, 0, 0, 4, 2, 1, 0, 0, 5), 6);
        answers.dueDots("some have the key", board, 1, "0004", "0089");
        answers.due("keyed of no dots", board.keyed(0, 0, 0, 0, 2, 1, 0, 0, 5), 0);
        answers.due("the key where it is drawn does not count", board.keyed(0, 0, 0, 4, 2, 1, 0, 0, 0), 6);
        answers.dueDots("the key where it is drawn", board, 1, "5504", "0059");
    }

    /** Promise 9: "dots with a key apart: those stay": every key of each depth on a row of numbers */
    private void keyedWithEachKey() {
        for (int depth : DEPTHS) {
            int wide = Math.min(64, 1 << depth);
            for (int key = 0; key < 1 << depth; key += depth == 8 ? 15 : 1) {
                BlitBoard board = new BlitBoard();
                board.make(depth, wide, 1);
                board.make(depth, wide, 1);
                int first = Math.min(key, (1 << depth) - wide);
                for (int x = 0; x < wide; x++) {
                    board.set(0, x, 0, first + x);
                }
                int other = key == 0 ? 1 : 0;
                board.fill(1, 0, 0, 64, 1, other, 12);
                answers.due("keyed with " + key, board.keyed(0, 0, 0, 64, 1, 1, 0, 0, key), wide);
                for (int x = 0; x < wide; x++) {
                    int due = first + x == key ? other : first + x;
                    answers.due("keyed with " + key + ": dot " + x, board.get(1, x, 0), due);
                }
            }
        }
    }

    /** Promise 10: "at the place of the first surface", "those beyond it being 0": masks of each size */
    private void maskedBeyondTheMask() {
        for (int wide = 1; wide <= 7; wide++) {
            for (int high = 1; high <= 5; high++) {
                BlitBoard board = new BlitBoard();
                board.make(4, 5, 3);
                board.make(4, 6, 4);
                board.make(1, wide, high);
                board.fill(0, 0, 0, 5, 3, 5, 12);
                board.fill(2, 0, 0, 64, 64, 1, 12);
                board.clip(2, 0, 0, 0, 0);
                String call = "masked by " + wide + " wide, " + high + " high";
                answers.due(call, board.masked(0, -1, -1, 64, 64, 1, 0, 0, 2), 15);
                for (int k = 0; k < 24; k++) {
                    int x = k % 6 - 1;
                    int y = k / 6 - 1;
                    boolean came = x >= 0 && x < Math.min(5, wide) && y >= 0 && y < Math.min(3, high);
                    answers.due(call + ": dot " + k, board.get(1, k % 6, k / 6), came ? 5 : 0);
                }
            }
        }
    }

    /** Promise 10: each dot of the mask counts, in surfaces that are wide and in surfaces that are high */
    private void maskedDotByDot() {
        int[][] sizes = {{1, 6}, {6, 1}, {2, 5}, {5, 2}, {3, 3}};
        for (int[] size : sizes) {
            int dots = size[0] * size[1];
            for (int open = 0; open < dots; open++) {
                BlitBoard board = new BlitBoard();
                board.make(8, size[0], size[1]);
                board.make(8, size[0], size[1]);
                board.make(1, size[0], size[1]);
                board.fill(0, 0, 0, 64, 64, 200, 12);
                board.set(2, open % size[0], open / size[0], 1);
                String call = "masked by dot " + open + " of " + size[0] + ", " + size[1];
                answers.due(call, board.masked(0, 0, 0, size[0], size[1], 1, 0, 0, 2), dots);
                answers.due(call + ": that one", board.get(1, open % size[0], open / size[0]), 200);
                answers.due(call + ": no other", board.count(1, 0), dots - 1);
            }
        }
    }

    /** Promise 10: "How many of the rectangle's dots had places", whatever the mask has there */
    private void maskedByNothingAndByAll() {
        BlitBoard board = new BlitBoard();
        board.make(8, 64, 64);
        board.make(8, 64, 64);
        board.make(1, 64, 64);
        board.make(1, 1, 1);
        board.fill(0, 0, 0, 64, 64, 255, 12);
        answers.due("masked by all 0", board.masked(0, 0, 0, 64, 64, 1, 0, 0, 2), 4096);
        answers.due("masked by all 0", board.count(1, 0), 4096);
        board.set(2, 63, 63, 1);
        answers.due("masked by one 1", board.masked(0, 0, 0, 64, 64, 1, 0, 0, 2), 4096);
        answers.due("masked by one 1", board.count(1, 0), 4095);
        answers.due("masked by one 1", board.get(1, 63, 63), 255);
        answers.due("its place is that of the first one", board.masked(0, 63, 63, 1, 1, 1, 0, 0, 2), 1);
        answers.due("its place is that of the first one", board.get(1, 0, 0), 255);
        answers.due("not that of the second one", board.masked(0, 0, 0, 1, 1, 1, 63, 0, 2), 1);
        answers.due("not that of the second one", board.get(1, 63, 0), 0);
        board.fill(1, 0, 0, 64, 64, 0, 12);
        board.set(3, 0, 0, 1);
        answers.due("masked by one dot", board.masked(0, 0, 0, 64, 64, 1, 0, 0, 3), 4096);
        answers.due("masked by one dot", board.count(1, 0), 4095);
        board.fill(2, 0, 0, 64, 64, 1, 12);
        answers.due("masked by all 1", board.masked(0, 0, 0, 64, 64, 1, 0, 0, 2), 4096);
        answers.due("masked by all 1", board.count(1, 255), 4096);
        answers.due("masked of no dots", board.masked(0, 0, 0, 0, 0, 1, 0, 0, 2), 0);
    }

    /** The mask may be the one that is copied from, or drawn on, or both; all count as before the call. */
    private void maskedByWhatIsDrawnOn() {
        for (int move = -2; move <= 2; move++) {
            for (int kind = 0; kind < 4; kind++) {
                BlitBoard board = new BlitBoard();
                board.make(1, 8, 1);
                board.make(1, 8, 1);
                String[] rows = {"01101001", "11010110"};
                setRow(board, 0, rows[0]);
                setRow(board, 1, rows[1]);
                int from = kind & 1;
                int mask = kind >> 1;
                answers.due("masked by " + mask, board.masked(from, 0, 0, 8, 1, 1, move, 0, mask), 8 - Math.abs(move));
                for (int x = 0; x < 8; x++) {
                    int at = x - move;
                    boolean came = at >= 0 && at < 8 && rows[mask].charAt(at) == '1';
                    int due = (came ? rows[from].charAt(at) : rows[1].charAt(x)) - '0';
                    answers.due("masked by " + mask + ": dot " + x, board.get(1, x, 0), due);
                }
            }
        }
    }

    private static void setRow(BlitBoard board, int surface, String row) {
        for (int x = 0; x < row.length(); x++) {
            board.set(surface, x, 0, row.charAt(x) - '0');
        }
    }

    /** Promise 11: "to any one: zero for 0, one for 1": the least and the largest number of each depth */
    private void spreadToEachDepth() {
        for (int depth : DEPTHS) {
            int largest = (1 << depth) - 1;
            int[][] pairs = {{0, largest}, {largest, 0}, {largest, largest}, {0, 0}, {1, 0}, {0, 1}};
            for (int[] pair : pairs) {
                BlitBoard board = new BlitBoard();
                board.make(1, 4, 1);
                board.make(depth, 6, 1);
                setRow(board, 0, "0110");
                board.fill(1, 0, 0, 6, 1, 1, 12);
                board.clip(1, 0, 0, 4, 1);
                String call = "spread " + pair[0] + " and " + pair[1] + " to depth " + depth;
                answers.due(call, board.spread(0, 0, 0, 64, 64, 1, 1, 0, pair[0], pair[1]), 3);
                int[] want = {1, pair[0], pair[1], pair[1], 1, 1};
                for (int x = 0; x < 6; x++) {
                    answers.due(call + ": dot " + x, board.get(1, x, 0), want[x]);
                }
                answers.due(call + " of no dots", board.spread(0, 0, 0, 0, 1, 1, 0, 0, pair[0], pair[1]), 0);
            }
        }
    }

    /** Promise 12: "left and right (way 0), top and bottom (1)": surfaces of each width and height */
    private void turnOfEachSize() {
        for (int side = 1; side <= 64; side++) {
            BlitBoard board = new BlitBoard();
            board.make(8, side, 2);
            board.make(8, 2, side);
            for (int k = 0; k < side; k++) {
                board.set(0, k, 0, k + 1);
                board.set(1, 0, k, k + 1);
            }
            answers.due("turn " + side + " wide", board.turn(0, 0), 1);
            answers.due("turn " + side + " high", board.turn(1, 1), 1);
            for (int k = 0; k < side; k++) {
                answers.due(side + " wide: dot " + k, board.get(0, k, 0), side - k);
                answers.due(side + " high: dot " + k, board.get(1, 0, k), side - k);
            }
            answers.due(side + " wide: the other row", board.count(0, 0), side);
            answers.due(side + " high: the other column", board.count(1, 0), side);
            answers.due("turn " + side + " wide", board.turn(0, 1), 1);
            answers.due("turn " + side + " high", board.turn(1, 0), 1);
            answers.due(side + " wide: the first dot", board.get(0, 0, 1), side);
            answers.due(side + " high: the first dot", board.get(1, 1, 0), side);
            answers.due(side + " wide: the first dot", board.get(0, 0, 0), 0);
            answers.due(side + " high: the first dot", board.get(1, 0, 0), 0);
        }
    }

    /** Promise 12: "whatever its clip is", and the clip stays */
    private void turnWhateverTheClip() {
        int[][] clips = {{0, 0, 0, 0}, {0, 0, 1, 1}, {2, 1, 1, 1}, {0, 0, 3, 1}};
        for (int[] c : clips) {
            BlitBoard board = new BlitBoard();
            board.make(4, 3, 2);
            Answers.paint(board, 0, "123", "456");
            board.clip(0, c[0], c[1], c[2], c[3]);
            board.turn(0, 0);
            answers.dueDots("turn left and right", board, 0, "321", "654");
            board.turn(0, 1);
            answers.dueDots("turn top and bottom", board, 0, "654", "321");
            for (int k = 0; k < 4; k++) {
                answers.due("the clip stays", board.told(0, 3 + k), c[k]);
            }
        }
    }

    /** Promise 13: "How many dots of a surface have a number": none, some, all; numbers that no dot can have */
    private void countOfEachNumber() {
        for (int depth : DEPTHS) {
            BlitBoard board = new BlitBoard();
            board.make(depth, 64, 64);
            int largest = (1 << depth) - 1;
            board.fill(0, 0, 0, 64, 64, largest, 12);
            answers.due("count all", board.count(0, largest), 4096);
            board.clip(0, 0, 0, 0, 0);
            answers.due("count all, whatever the clip", board.count(0, largest), 4096);
            board.set(0, 63, 63, 0);
            for (int v = 0; v <= largest; v++) {
                answers.due("count " + v, board.count(0, v), v == largest ? 4095 : v == 0 ? 1 : 0);
            }
            int[] none = {LEAST, -256, -1, -1 - largest, largest + 1, 2 * largest + 1, largest + 256, 256, MOST};
            for (int v : none) {
                answers.due("count " + v, board.count(0, v), 0);
            }
            answers.due("count of no surface", board.count(1, 0), NONE);
        }
    }

    /** Promise 14: "A sprite becomes a surface": none of its bytes of before are left, however many they were */
    private void tellReplaces() {
        BlitBoard board = new BlitBoard();
        board.make(4, 2, 1);
        Answers.loadBytes(board, 0, 1, 2, 3, 4, 5, 6);
        Answers.loadBytes(board, 1, 9);
        answers.due("tell over more bytes", board.tell(0, 0, 0), 1);
        answers.dueBytes("tell over more bytes", board, 0, 0);
        board.set(0, 1, 0, 7);
        answers.due("tell over fewer bytes", board.tell(1, 0, 0), 4);
        answers.dueBytes("tell over fewer bytes", board, 1, 1, 65, 7, 0);
        answers.due("tell over none", board.tell(2, 0, 7), 3);
        answers.dueBytes("tell over none", board, 2, 65, 0, 0);
        answers.dueBytes("the first one stays", board, 0, 0);
        answers.due("load behind what was told", board.load(1, 0x4101, 2), 6);
        board.set(0, 0, 0, 3);
        answers.dueBytes("what was told stays", board, 1, 1, 65, 7, 0, 65, 1);
        answers.due("forget what was told", board.forget(1), 6);
        answers.dueBytes("it is forgotten", board, 1);
        answers.due("tell again", board.tell(1, 0, 0), 4);
        answers.dueBytes("tell again", board, 1, 66, 3, 7, 0);
    }

    /** Promise 14: a surface is told whole, also the dots beyond its clip. */
    private void tellWhateverTheClip() {
        int[][] clips = {{0, 0, 0, 0}, {0, 0, 1, 1}, {0, 0, 2, 2}, {1, 0, 3, 1}, {4, 1, 1, 1}, {0, 0, 5, 2}};
        for (int[] c : clips) {
            BlitBoard board = new BlitBoard();
            board.make(4, 5, 2);
            Answers.paint(board, 0, "02777", "12010");
            board.clip(0, c[0], c[1], c[2], c[3]);
            answers.due("tell whatever the clip is", board.tell(0, 0, 0), 13);
            answers.dueBytes("tell whatever the clip is", board, 0, 1, 65, 2, 131, 7, 0, 66, 1, 2, 1, 65, 1, 0);
        }
    }

    /** Promise 16: "A sprite has no bytes any more: how many it had" */
    private void forgetLeavesNothing() {
        for (int size = 0; size <= 16; size++) {
            BlitBoard board = new BlitBoard();
            board.make(8, 2, 1);
            for (int k = 0; k < size; k++) {
                board.load(1, 0xff, 1);
            }
            board.load(0, 1, 1);
            answers.due("forget " + size, board.forget(1), size);
            answers.due("forget again", board.forget(1), 0);
            for (int k = 0; k <= size; k++) {
                answers.due("no byte " + k, board.part(1, k), NONE);
            }
            answers.due("draw what is forgotten", board.draw(1, 0, 0, 0), 0);
            answers.due("nothing is drawn", board.count(0, 0), 2);
            answers.due("load anew", board.load(1, 0x0304, 2), 2);
            answers.dueBytes("load anew", board, 1, 3, 4);
            answers.dueBytes("the other stays", board, 0, 1);
        }
    }

    /** Promise 17: "Byte k of a sprite": all 256, from 0 to the last */
    private void partOfEachByte() {
        BlitBoard board = new BlitBoard();
        for (int k = 0; k < 32; k++) {
            long bytes = 0;
            for (int j = 0; j < 8; j++) {
                bytes = bytes << 8 | (8 * k + j);
            }
            board.load(3, bytes, 8);
        }
        for (int k = 0; k < 256; k++) {
            answers.due("part " + k, board.part(3, k), k);
        }
        int[] none = {LEAST, LEAST + 255, -256, -1, 256, 257, 512, 65536, MOST};
        for (int k : none) {
            answers.due("part " + k, board.part(3, k), NONE);
        }
        answers.due("part 0 of an empty one", board.part(0, 0), NONE);
    }

    /** Promise 18: "its first dot at (x, y)": a sprite of 2 by 2 dots, one not drawn, over each edge */
    private void drawAtEachPlace() {
        for (int x = -3; x <= 5; x++) {
            for (int y = -3; y <= 4; y++) {
                BlitBoard board = new BlitBoard();
                board.make(4, 4, 3);
                Answers.loadBytes(board, 0, 1, 65, 7, 0, 66, 8, 9, 0);
                answers.due("draw at " + x + ", " + y, board.draw(0, 0, x, y), 0);
                for (int k = 0; k < 12; k++) {
                    int column = k % 4 - x;
                    int row = k / 4 - y;
                    boolean within = column >= 0 && column < 2 && row >= 0 && row < 2;
                    int due = within ? new int[] {0, 7, 8, 9}[2 * row + column] : 0;
                    answers.due("draw at " + x + ", " + y + ": dot " + k, board.get(0, k % 4, k / 4), due);
                }
            }
        }
    }

    /** "An object is used for at most 512 calls after it has been made": the 512th is still as promised. */
    private void the512thCall() {
        Twins.Call[] lasts = {
            board -> board.make(8, 64, 64), board -> board.clip(0, 1, 1, 64, 64), board -> board.set(0, 2, 2, 9),
            board -> board.get(0, 1, 1), board -> board.told(0, 5), board -> board.fill(0, 0, 0, 64, 64, 6, 6),
            board -> board.copy(0, 0, 0, 64, 64, 1, 1, 1, 7), board -> board.keyed(0, 0, 0, 64, 64, 1, 1, 1, 0),
            board -> board.masked(0, 0, 0, 64, 64, 1, 1, 1, 2), board -> board.spread(2, 0, 0, 64, 64, 1, 1, 1, 3, 4),
            board -> board.turn(0, 0), board -> board.count(0, 15), board -> board.tell(1, 0, 0),
            board -> board.load(0, 0x0102030405060708L, 8), board -> board.forget(0), board -> board.part(0, 1),
            board -> board.draw(0, 0, 0, 0), BlitBoard::check};
        int[] due = {3, 3969, 1, 15, 64, 4096, 3969, 3969, 3969, 3969, 1, 4096, 320, 11, 3, 1, 0, 1};
        for (int k = 0; k < lasts.length; k++) {
            BlitBoard board = new BlitBoard();
            board.make(4, 64, 64);
            board.make(4, 64, 64);
            board.make(1, 64, 64);
            board.load(0, 0x410100, 3);
            for (int call = 5; call <= 511; call++) {
                board.fill(0, 0, 0, 64, 64, 15, call % 2 == 0 ? 6 : 12);
            }
            answers.due("the 512th call, " + k, lasts[k].on(board), due[k]);
        }
    }
}
