/** Compares answers with those that are due, prints the others, and ends a test. */
final class Answers {
    private int asked = 0;
    private int wrong = 0;

    void due(String call, long got, long want) {
        asked++;
        if (got != want) {
            wrong++;
            System.out.println(call + " answered " + got + ", due is " + want);
        }
    }

    /** Each text is a row of the surface, a hexadecimal digit a dot. */
    void dueDots(String call, BlitBoard board, int surface, String... rows) {
        due(call + ": high", board.told(surface, 2), rows.length);
        for (int y = 0; y < rows.length; y++) {
            due(call + ": wide", board.told(surface, 1), rows[y].length());
            for (int x = 0; x < rows[y].length(); x++) {
                int want = Character.digit(rows[y].charAt(x), 16);
                due(call + ": dot " + x + ", " + y, board.get(surface, x, y), want);
            }
        }
    }

    void dueBytes(String call, BlitBoard board, int sprite, int... bytes) {
        for (int k = 0; k < bytes.length; k++) {
            due(call + ": byte " + k, board.part(sprite, k), bytes[k]);
        }
        due(call + ": byte behind the last", board.part(sprite, bytes.length), BlitBoard.NONE);
    }

    /** Sets dots from texts of the same form; the surface must be made already. */
    static void paint(BlitBoard board, int surface, String... rows) {
        for (int y = 0; y < rows.length; y++) {
            for (int x = 0; x < rows[y].length(); x++) {
                board.set(surface, x, y, Character.digit(rows[y].charAt(x), 16));
            }
        }
    }

    static void loadBytes(BlitBoard board, int sprite, int... bytes) {
        for (int value : bytes) {
            board.load(sprite, value, 1);
        }
    }

    void end() {
        System.out.println(asked + " answers, " + wrong + " not as due");
        if (asked == 0 || wrong != 0) {
            System.exit(1);
        }
    }
}
