/**
 * Two boards made alike; a call is made on one of them. What the boards tell of themselves shows whether the call
 * has changed anything.
 */
final class Twins {
    interface Call {
        int on(BlitBoard board);
    }

    interface Maker {
        BlitBoard board();
    }

    private final Answers answers;
    private final Maker maker;

    Twins(Answers answers, Maker maker) {
        this.answers = answers;
        this.maker = maker;
    }

    /** The call answers this, and nothing has changed. */
    void same(String call, int answer, Call made) {
        compare(call, answer, made, true);
    }

    /** The call answers this, and something has changed. */
    void changed(String call, int answer, Call made) {
        compare(call, answer, made, false);
    }

    private void compare(String call, int answer, Call made, boolean same) {
        BlitBoard board = maker.board();
        answers.due(call, made.on(board), answer);
        boolean alike = stateOf(board).equals(stateOf(maker.board()));
        answers.due(call + ": all is as before", alike ? 1 : 0, same ? 1 : 0);
    }

    /** Every surface, dot, clip and byte, by calls that change nothing; small boards need some 200 calls. */
    static String stateOf(BlitBoard board) {
        StringBuilder text = new StringBuilder();
        for (int surface = 0; surface < 9; surface++) {
            addSurface(text, board, surface);
        }
        for (int sprite = 0; sprite < 4; sprite++) {
            addSprite(text, board, sprite);
        }
        return text.toString();
    }

    private static void addSurface(StringBuilder text, BlitBoard board, int surface) {
        if (board.told(surface, 0) == BlitBoard.NONE) {
            text.append("no surface ").append(surface).append('\n');
            return;
        }
        text.append("surface ").append(surface).append(':');
        for (int what = 0; what < 7; what++) {
            text.append(' ').append(board.told(surface, what));
        }
        text.append('\n');
        int wide = board.told(surface, 1);
        int high = board.told(surface, 2);
        for (int y = 0; y < high; y++) {
            for (int x = 0; x < wide; x++) {
                text.append(' ').append(board.get(surface, x, y));
            }
            text.append('\n');
        }
    }

    private static void addSprite(StringBuilder text, BlitBoard board, int sprite) {
        text.append("sprite ").append(sprite).append(':');
        for (int k = 0; k < 100; k++) {
            int part = board.part(sprite, k);
            if (part == BlitBoard.NONE) {
                break;
            }
            text.append(' ').append(part);
        }
        text.append('\n');
    }
}
