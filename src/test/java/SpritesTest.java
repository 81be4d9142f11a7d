/** Promises 14 to 18: tell, load, forget, part, draw. */
public final class SpritesTest {
    private static final int NONE = BlitBoard.NONE;
    private static final int LEAST = Integer.MIN_VALUE;
    private static final int MOST = Integer.MAX_VALUE;

    public static void main(String[] args) {
        Answers answers = new Answers();
        loads(answers);
        loadsToTheLimit(answers);
        loadsWrong(answers);
        forgets(answers);
        parts(answers);
        tellRows(answers);
        tellKeys(answers);
        tellLongStretches(answers);
        tellTooMuch(answers);
        tellJustAtTheLimit(answers);
        tellWrong(answers);
        draws(answers);
        drawsWithinTheClip(answers);
        drawsFarAway(answers);
        drawsAsManyAsCanStand(answers);
        drawsToTheLimit(answers);
        bytesThatCanNotStand(answers);
        dotsThatDoNotFit(answers);
        drawWrong(answers);
        answers.end();
    }

    private static BlitBoard withSurface(int depth, int wide, int high) {
        BlitBoard board = new BlitBoard();
        board.make(depth, wide, high);
        return board;
    }

    private static void loads(Answers answers) {
        BlitBoard board = new BlitBoard();
        answers.due("load 1", board.load(0, 0x1234567890abcdefL, 1), 1);
        answers.due("load 3", board.load(0, 0x1234567890abcdefL, 3), 4);
        answers.due("load 8", board.load(0, 0xfedcba9876543210L, 8), 12);
        answers.due("load -1", board.load(0, -1L, 2), 14);
        answers.due("load the least", board.load(0, Long.MIN_VALUE, 8), 22);
        answers.due("load 7", board.load(0, 0x8877665544332211L, 7), 29);
        answers.dueBytes("loads", board, 0, 0xef, 0xab, 0xcd, 0xef,
            0xfe, 0xdc, 0xba, 0x98, 0x76, 0x54, 0x32, 0x10, 255, 255, 0x80, 0, 0, 0, 0, 0, 0, 0,
            0x77, 0x66, 0x55, 0x44, 0x33, 0x22, 0x11);
        answers.due("load the last sprite", board.load(3, 7, 1), 1);
        answers.dueBytes("load the last sprite", board, 3, 7);
        answers.dueBytes("the others have none", board, 1);
        answers.dueBytes("the others have none", board, 2);
    }

    /** A surface told fills most of a sprite, so that few calls reach the limit. */
    private static BlitBoard nearlyFull(Answers answers) {
        BlitBoard board = withSurface(8, 64, 64);
        for (int x = 1; x < 64; x += 2) {
            board.fill(0, x, 0, 1, 64, 7, 12);
        }
        answers.due("tell most of a sprite", board.tell(0, 0, 255), 64 * 67);
        for (int k = 1; k <= 89; k++) {
            answers.due("load on", board.load(0, k, 8), 64 * 67 + 8 * k);
        }
        return board;
    }

    private static void loadsToTheLimit(Answers answers) {
        BlitBoard board = nearlyFull(answers);
        answers.due("the last byte so far", board.part(0, 4999), 89);
        answers.due("one too many", board.load(0, 1, 1), NONE);
        answers.due("eight too many", board.load(0, 1, 8), NONE);
        answers.due("no byte there", board.part(0, 5000), NONE);
        answers.due("no byte changed", board.part(0, 4999), 89);
        answers.due("another sprite has room", board.load(1, 1, 8), 8);
        answers.due("all are forgotten", board.forget(0), 5000);
        answers.due("there is room again", board.load(0, 1, 8), 8);
        BlitBoard other = withSurface(8, 64, 64);
        for (int x = 1; x < 64; x += 2) {
            other.fill(0, x, 0, 1, 64, 7, 12);
        }
        other.tell(0, 0, 255);
        for (int k = 0; k < 101; k++) {
            other.load(0, 0, 7);
        }
        answers.due("4995 bytes and 6", other.load(0, 0x0a0b0c0d0e0fL, 6), NONE);
        answers.due("4995 bytes, none of them added", other.part(0, 4995), NONE);
        answers.due("4995 bytes and 5", other.load(0, 0x0b0c0d0e0fL, 5), 5000);
        answers.due("the first of them", other.part(0, 4995), 0x0b);
        answers.due("the last of them", other.part(0, 4999), 0x0f);
    }

    private static void loadsWrong(Answers answers) {
        BlitBoard board = new BlitBoard();
        int[] sprites = {LEAST, -1, 4, 5, MOST};
        for (int sprite : sprites) {
            answers.due("load sprite " + sprite, board.load(sprite, 1, 1), NONE);
        }
        int[] numbers = {LEAST, -1, 0, 9, 16, MOST};
        for (int n : numbers) {
            answers.due("load " + n + " bytes", board.load(0, 1, n), NONE);
        }
        for (int k = 0; k < 4; k++) {
            answers.due("wrong loads add nothing", board.forget(k), 0);
        }
    }

    private static void forgets(Answers answers) {
        BlitBoard board = new BlitBoard();
        board.load(1, 0x010203, 3);
        board.load(2, 0x0405, 2);
        answers.due("forget", board.forget(1), 3);
        answers.due("forget again", board.forget(1), 0);
        answers.dueBytes("forget", board, 1);
        answers.dueBytes("the other stays", board, 2, 4, 5);
        answers.due("load anew", board.load(1, 9, 1), 1);
        answers.dueBytes("load anew", board, 1, 9);
        int[] sprites = {LEAST, -1, 4, 5, MOST};
        for (int sprite : sprites) {
            answers.due("forget " + sprite, board.forget(sprite), NONE);
        }
    }

    private static void parts(Answers answers) {
        BlitBoard board = new BlitBoard();
        board.load(3, 0xff8001, 3);
        answers.dueBytes("parts", board, 3, 255, 128, 1);
        int[] places = {LEAST, -1, 3, 4999, 5000, 5001, MOST};
        for (int k : places) {
            answers.due("part 3, " + k, board.part(3, k), NONE);
        }
        int[] sprites = {LEAST, -1, 0, 4, MOST};
        for (int sprite : sprites) {
            answers.due("part " + sprite + ", 0", board.part(sprite, 0), NONE);
        }
    }

    private static void dueTold(Answers answers, String row, int key, int... bytes) {
        BlitBoard board = withSurface(4, row.length(), 1);
        Answers.paint(board, 0, row);
        String call = "tell " + row + " with key " + key;
        answers.due(call, board.tell(2, 0, key), bytes.length);
        answers.dueBytes(call, board, 2, bytes);
        board.fill(0, 0, 0, 64, 1, 0, 0);
        answers.due("draw what was told", board.draw(2, 0, 0, 0), 0);
        for (int x = 0; x < row.length(); x++) {
            int dot = Character.digit(row.charAt(x), 16);
            answers.due(call + ": drawn " + x, board.get(0, x, 0), dot == key ? 0 : dot);
        }
    }

    private static void tellRows(Answers answers) {
        dueTold(answers, "0", 0, 0);
        dueTold(answers, "00000", 0, 0);
        dueTold(answers, "1", 0, 65, 1, 0);
        dueTold(answers, "11", 0, 66, 1, 1, 0);
        dueTold(answers, "111", 0, 131, 1, 0);
        dueTold(answers, "1111", 0, 132, 1, 0);
        dueTold(answers, "1122", 0, 68, 1, 1, 2, 2, 0);
        dueTold(answers, "111222", 0, 131, 1, 131, 2, 0);
        dueTold(answers, "1112", 0, 131, 1, 65, 2, 0);
        dueTold(answers, "2111", 0, 65, 2, 131, 1, 0);
        dueTold(answers, "11211122", 0, 67, 1, 1, 2, 131, 1, 66, 2, 2, 0);
        dueTold(answers, "1110111", 0, 131, 1, 1, 131, 1, 0);
        dueTold(answers, "11011", 0, 66, 1, 1, 1, 66, 1, 1, 0);
        dueTold(answers, "1012", 0, 65, 1, 1, 66, 1, 2, 0);
        dueTold(answers, "000100", 0, 3, 65, 1, 0);
        dueTold(answers, "0010", 1, 66, 0, 0, 1, 65, 0, 0);
        dueTold(answers, "000f000", 15, 131, 0, 1, 131, 0, 0);
        dueTold(answers, "5550000777", 0, 131, 5, 4, 131, 7, 0);
    }

    private static void tellKeys(Answers answers) {
        BlitBoard board = withSurface(1, 4, 3);
        Answers.paint(board, 0, "0110", "0000", "1111");
        answers.due("tell with key 0", board.tell(0, 0, 0), 9);
        answers.dueBytes("tell with key 0", board, 0, 1, 66, 1, 1, 0, 0, 132, 1, 0);
        answers.due("tell with key 1", board.tell(0, 0, 1), 10);
        answers.dueBytes("tell with key 1", board, 0, 65, 0, 2, 65, 0, 0, 132, 0, 0, 0);
        int[] keys = {LEAST, -1, 2, 300, MOST};
        for (int key : keys) {
            answers.due("tell with key " + key, board.tell(0, 0, key), 12);
            answers.dueBytes("tell with key " + key, board, 0, 68, 0, 1, 1, 0, 0, 132, 0, 0, 132, 1, 0);
        }
        board.clip(0, 0, 0, 0, 0);
        answers.due("tell whatever the clip is", board.tell(0, 0, 300), 12);
        board.load(3, 1, 8);
        answers.due("tell to a sprite with bytes", board.tell(3, 0, 0), 9);
        answers.dueBytes("tell to a sprite with bytes", board, 3, 1, 66, 1, 1, 0, 0, 132, 1, 0);
        answers.dueBytes("the others have none", board, 1);
        answers.due("load on what was told", board.load(3, 5, 1), 10);
        answers.due("check", board.check(), 1);
    }

    private static void tellLongStretches(Answers answers) {
        String row = "1".repeat(64);
        dueTold(answers, row, 0, 191, 1, 129, 1, 0);
        dueTold(answers, row.substring(1), 0, 191, 1, 0);
        dueTold(answers, row.substring(1) + "2", 0, 191, 1, 65, 2, 0);
        dueTold(answers, "0".repeat(63) + "1", 0, 63, 65, 1, 0);
        dueTold(answers, "0".repeat(62) + "11", 0, 62, 66, 1, 1, 0);
        dueTold(answers, "0".repeat(61) + "111", 0, 61, 131, 1, 0);
        dueTold(answers, "0".repeat(64), 0, 0);
        int[] each = new int[67];
        each[0] = 64 + 63;
        each[64] = 65;
        for (int k = 0; k < 64; k++) {
            each[k < 63 ? k + 1 : k + 2] = k % 2 + 1;
        }
        dueTold(answers, "12".repeat(32), 0, each);
    }

    private static void tellTooMuch(Answers answers) {
        BlitBoard board = withSurface(4, 64, 64);
        for (int x = 1; x < 64; x += 2) {
            board.fill(0, x, 0, 1, 64, 7, 12);
        }
        board.load(1, 0x010203, 3);
        answers.due("tell too much", board.tell(1, 0, 0), NONE);
        answers.dueBytes("the old bytes stay", board, 1, 1, 2, 3);
        answers.due("tell too much", board.tell(1, 0, 7), NONE);
        answers.dueBytes("the old bytes stay", board, 1, 1, 2, 3);
        answers.due("tell less", board.tell(1, 0, 1), 64 * 67);
        answers.due("tell too much", board.tell(1, 0, 0), NONE);
        answers.due("what was told stays", board.forget(1), 64 * 67);
        answers.dueBytes("the others have none", board, 0);
    }

    /** Rows of 97 bytes, 51 of them, and rows of one byte: 4960; a row of 41 bytes more in place of one: 5000. */
    private static void tellJustAtTheLimit(Answers answers) {
        BlitBoard board = withSurface(4, 64, 64);
        for (int x = 1; x < 64; x += 2) {
            board.fill(0, x, 0, 1, 51, 7, 12);
        }
        answers.due("tell 4960", board.tell(0, 0, 0), 4960);
        for (int x = 1; x < 27; x += 2) {
            board.set(0, x, 60, 7);
        }
        answers.due("tell 4999", board.tell(0, 0, 0), 4999);
        board.set(0, 26, 60, 8);
        answers.due("tell 5000", board.tell(0, 0, 0), 5000);
        answers.due("the last byte", board.part(0, 4999), 0);
        answers.due("draw 5000", board.draw(0, 0, 0, 0), 0);
        board.set(0, 27, 60, 9);
        answers.due("tell 5001", board.tell(0, 0, 0), NONE);
        answers.due("5000 stay", board.forget(0), 5000);
        answers.due("tell 5001 to an empty one", board.tell(0, 0, 0), NONE);
        answers.due("it stays empty", board.forget(0), 0);
    }

    private static void tellWrong(Answers answers) {
        BlitBoard board = withSurface(4, 5, 5);
        int[] sprites = {LEAST, -1, 4, 5, MOST};
        for (int sprite : sprites) {
            answers.due("tell sprite " + sprite, board.tell(sprite, 0, 0), NONE);
        }
        board.load(0, 3, 1);
        int[] surfaces = {LEAST, -1, 1, 8, MOST};
        for (int surface : surfaces) {
            answers.due("tell surface " + surface, board.tell(0, surface, 0), NONE);
        }
        answers.dueBytes("wrong ones tell nothing", board, 0, 3);
    }

    private static void draws(Answers answers) {
        BlitBoard board = withSurface(4, 6, 4);
        answers.due("draw no bytes", board.draw(0, 0, 0, 0), 0);
        board.fill(0, 0, 0, 6, 4, 1, 12);
        Answers.loadBytes(board, 0, 1, 66, 0, 5, 130, 7, 0, 0, 131, 0, 2, 65, 15, 0);
        answers.due("draw", board.draw(0, 0, 0, 0), 0);
        answers.dueDots("draw", board, 0, "105771", "111111", "00011f", "111111");
        board.fill(0, 0, 0, 6, 4, 1, 12);
        answers.due("draw at 2, 1", board.draw(0, 0, 2, 1), 0);
        answers.dueDots("draw at 2, 1", board, 0, "111111", "111057", "111111", "110001");
        board.fill(0, 0, 0, 6, 4, 1, 12);
        answers.due("draw at -3, -2", board.draw(0, 0, -3, -2), 0);
        answers.dueDots("draw at -3, -2", board, 0, "11f111", "111111", "111111", "111111");
        answers.dueBytes("the sprite stays", board, 0, 1, 66, 0, 5, 130, 7, 0, 0, 131, 0, 2, 65, 15, 0);
    }

    private static void drawsWithinTheClip(Answers answers) {
        BlitBoard board = withSurface(4, 6, 4);
        Answers.loadBytes(board, 0, 134, 9, 0, 70, 1, 2, 3, 4, 5, 6, 0, 134, 8, 0, 134, 7, 0);
        board.clip(0, 2, 1, 3, 2);
        answers.due("draw within a clip", board.draw(0, 0, 0, 0), 0);
        answers.dueDots("draw within a clip", board, 0, "000000", "003450", "008880", "000000");
        answers.due("draw within a clip", board.draw(0, 0, 1, 1), 0);
        answers.dueDots("draw within a clip", board, 0, "000000", "009990", "002340", "000000");
        board.clip(0, 0, 0, 0, 0);
        answers.due("draw within no clip", board.draw(0, 0, 0, 0), 0);
        answers.dueDots("draw within no clip", board, 0, "000000", "009990", "002340", "000000");
    }

    private static void drawsFarAway(Answers answers) {
        BlitBoard board = withSurface(8, 64, 64);
        board.fill(0, 0, 0, 64, 64, 5, 12);
        answers.due("tell all", board.tell(0, 0, 0), 320);
        board.fill(0, 0, 0, 64, 64, 0, 12);
        int[] far = {LEAST, LEAST + 63, -64, 64, MOST - 63, MOST - 1, MOST};
        for (int place : far) {
            answers.due("draw at x " + place, board.draw(0, 0, place, 0), 0);
            answers.due("draw at y " + place, board.draw(0, 0, 0, place), 0);
        }
        answers.due("nothing drawn far away", board.count(0, 0), 4096);
        answers.due("draw at -63, 63", board.draw(0, 0, -63, 63), 0);
        answers.due("one drawn", board.count(0, 5), 1);
        answers.due("one drawn", board.get(0, 0, 63), 5);
    }

    private static void drawsAsManyAsCanStand(Answers answers) {
        BlitBoard board = withSurface(8, 64, 64);
        Answers.loadBytes(board, 0, 63, 65, 255, 0);
        answers.due("a row of 64", board.draw(0, 0, 0, 0), 0);
        answers.due("its last dot", board.get(0, 63, 0), 255);
        for (int k = 1; k < 64; k++) {
            board.load(0, 0, 1);
        }
        answers.due("64 rows", board.draw(0, 0, 0, 0), 0);
        board.load(0, 0, 1);
        answers.due("65 rows", board.draw(0, 0, 0, 0), 68);
        Answers.loadBytes(board, 1, 0, 0, 0, 191, 9, 65, 8, 0, 32, 32, 0, 32, 32, 1, 0);
        answers.due("a row of 65", board.draw(1, 0, 0, 0), 14);
        answers.due("none of it is drawn", board.count(0, 9), 0);
    }

    /** 51 rows of 97 bytes, then 26 dots of two bytes each, and one byte: 5000, and the row does not end. */
    private static void drawsToTheLimit(Answers answers) {
        BlitBoard board = withSurface(4, 64, 51);
        for (int x = 1; x < 64; x += 2) {
            board.fill(0, x, 0, 1, 51, 7, 12);
        }
        answers.due("tell 4947", board.tell(0, 0, 0), 4947);
        for (int k = 0; k < 26; k++) {
            board.load(0, 0x4101, 2);
        }
        answers.due("ends within a row", board.draw(0, 0, 0, 0), 5000);
        answers.due("load the last byte", board.load(0, 1, 1), 5000);
        answers.due("5000 bytes, and ends within a row", board.draw(0, 0, 0, 0), 5001);
        answers.due("nothing is drawn", board.count(0, 1), 0);
    }

    /** The bytes are loaded, and the place told is due on a surface of depth 8 and on one of depth 1. */
    private static void dueWrong(Answers answers, int place, int... bytes) {
        BlitBoard board = new BlitBoard();
        board.make(8, 64, 64);
        board.make(1, 64, 64);
        Answers.loadBytes(board, 0, bytes);
        String call = "draw " + java.util.Arrays.toString(bytes);
        answers.due(call, board.draw(0, 0, 0, 0), place);
        answers.due(call + " far away", board.draw(0, 1, MOST, LEAST), place);
        if (place != 0) {
            answers.due(call + ": nothing is drawn", board.count(0, 0), 4096);
        }
    }

    private static void bytesThatCanNotStand(Answers answers) {
        dueWrong(answers, 1, 64);
        dueWrong(answers, 1, 128);
        for (int value = 192; value < 256; value++) {
            dueWrong(answers, 1, value, 0);
        }
        dueWrong(answers, 4, 65, 1, 0, 64, 0);
        dueWrong(answers, 4, 65, 1, 0, 128, 1, 0);
        dueWrong(answers, 3, 65, 1, 192, 1, 0);
        dueWrong(answers, 3, 65, 1, 64, 0);
        dueWrong(answers, 0, 65, 1, 0);
        dueWrong(answers, 0, 1, 0);
        dueWrong(answers, 0, 0);
        dueWrong(answers, 2, 1);
        dueWrong(answers, 2, 65);
        dueWrong(answers, 3, 65, 1);
        dueWrong(answers, 2, 129);
        dueWrong(answers, 3, 129, 1);
        dueWrong(answers, 4, 67, 1, 0);
        dueWrong(answers, 5, 67, 1, 0, 1);
        dueWrong(answers, 4, 65, 1, 5);
        dueWrong(answers, 5, 65, 1, 0, 1);
        dueWrong(answers, 2, 63, 66, 1, 1, 0);
        dueWrong(answers, 2, 63, 130, 1, 0);
        dueWrong(answers, 2, 63, 2, 0);
        dueWrong(answers, 3, 191, 1, 66, 1, 1, 0);
        dueWrong(answers, 0, 191, 1, 65, 1, 0);
        dueWrong(answers, 0, 63, 129, 1, 0, 63, 1, 0);
        dueWrong(answers, 2, 63, 66);
        dueWrong(answers, 3, 32, 32, 255, 0);
    }

    private static void dotsThatDoNotFit(Answers answers) {
        BlitBoard board = new BlitBoard();
        board.make(1, 8, 2);
        board.make(4, 8, 2);
        board.make(8, 8, 2);
        Answers.loadBytes(board, 0, 67, 1, 2, 16, 0, 129, 255, 0);
        answers.due("draw on depth 1", board.draw(0, 0, 0, 0), 3);
        answers.due("draw on depth 4", board.draw(0, 1, 0, 0), 4);
        answers.due("draw on depth 8", board.draw(0, 2, 0, 0), 0);
        Answers.loadBytes(board, 1, 65, 1, 0, 131, 16, 0, 64);
        answers.due("draw one number on depth 1", board.draw(1, 0, 0, 0), 5);
        answers.due("draw one number on depth 4", board.draw(1, 1, 0, 0), 5);
        answers.due("a byte that can't stand behind", board.draw(1, 2, 0, 0), 7);
        Answers.loadBytes(board, 2, 66, 16);
        answers.due("it does not fit, and ends", board.draw(2, 1, 0, 0), 2);
        answers.due("it fits, and ends", board.draw(2, 2, 0, 0), 3);
        answers.due("beyond the clip too", board.clip(1, 0, 0, 0, 0), 0);
        answers.due("beyond the clip too", board.draw(1, 1, 0, 0), 5);
        Answers.loadBytes(board, 3, 65, 15, 0);
        answers.due("15 on depth 4", board.draw(3, 1, 0, 0), 0);
        answers.due("15 on depth 1", board.draw(3, 0, 0, 0), 2);
        answers.due("depth 1 is as it was", board.count(0, 0), 16);
        answers.due("depth 4 is as it was", board.count(1, 0), 16);
        answers.due("depth 8 was drawn on once", board.count(2, 0), 12);
    }

    private static void drawWrong(Answers answers) {
        BlitBoard board = withSurface(8, 4, 4);
        Answers.loadBytes(board, 0, 65, 9, 0);
        int[] sprites = {LEAST, -1, 4, 5, MOST};
        for (int sprite : sprites) {
            answers.due("draw sprite " + sprite, board.draw(sprite, 0, 0, 0), NONE);
        }
        int[] surfaces = {LEAST, -1, 1, 8, MOST};
        for (int surface : surfaces) {
            answers.due("draw on surface " + surface, board.draw(0, surface, 0, 0), NONE);
        }
        answers.due("wrong ones draw nothing", board.count(0, 0), 16);
    }
}
