import java.util.ArrayList;
import java.util.Arrays;
import java.util.List;

/** The terms of sprites, and of a surface told as one: each sentence that names a bound, at that bound. */
public final class SpriteTermsTest {
    private static final int NONE = BlitBoard.NONE;
    private static final int LEAST = Integer.MIN_VALUE;
    private static final int MOST = Integer.MAX_VALUE;

    private final Answers answers;

    private SpriteTermsTest(Answers answers) {
        this.answers = answers;
    }

    public static void main(String[] args) {
        Answers answers = new Answers();
        SpriteTermsTest test = new SpriteTermsTest(answers);
        test.spritesAreFour();
        test.spritesHaveAtMost5000BytesByLoad();
        test.fullSpritesStayWhole();
        test.numbersAtTheirEnds();
        test.spritesHaveAtMost5000BytesByTell();
        test.eachByteWhereAStretchBegins();
        test.eachByteWhereADotIs();
        test.rowsOfAtMost64Dots();
        test.rowsOfManyStretches();
        test.atMost64Rows();
        test.bytesBehindTheLastRow();
        test.endsWithinARow();
        test.theFirstWrongByteIsTold();
        test.keysAreNotDrawn();
        test.whatIsBehindTheLastIsNotTold();
        test.notDrawnSideBySide();
        test.threeOrMoreOfOneNumber();
        test.thoseBetween();
        test.neighboursOfThree();
        test.rowsStartAnew();
        test.everyShortRow();
        answers.end();
    }

    private static BlitBoard withSurface(int depth, int wide, int high) {
        BlitBoard board = new BlitBoard();
        board.make(depth, wide, high);
        return board;
    }

    /** "there are 4, numbered from 0, at first with no bytes" */
    private void spritesAreFour() {
        BlitBoard board = withSurface(8, 2, 2);
        for (int sprite = -1; sprite <= 4; sprite++) {
            boolean is = sprite >= 0 && sprite < 4;
            answers.due("part of " + sprite, board.part(sprite, 0), NONE);
            answers.due("draw " + sprite + " at first", board.draw(sprite, 0, 0, 0), is ? 0 : NONE);
            answers.due("forget " + sprite + " at first", board.forget(sprite), is ? 0 : NONE);
            answers.due("load " + sprite, board.load(sprite, sprite + 5, 1), is ? 1 : NONE);
        }
        for (int sprite = 0; sprite < 4; sprite++) {
            answers.dueBytes("each has its own", board, sprite, sprite + 5);
        }
        for (int sprite = -1; sprite <= 4; sprite++) {
            boolean is = sprite >= 0 && sprite < 4;
            answers.due("tell " + sprite, board.tell(sprite, 0, sprite), !is ? NONE : sprite == 0 ? 2 : 8);
        }
    }

    /** Sprite 0 has so many bytes, 4288 of them from a surface told: few calls reach the limit. */
    private static BlitBoard withBytes(int size) {
        BlitBoard board = withSurface(8, 64, 64);
        for (int x = 1; x < 64; x += 2) {
            board.fill(0, x, 0, 1, 64, 7, 12);
        }
        int has = board.tell(0, 0, 255);
        while (has < size) {
            int n = Math.min(8, size - has);
            long bytes = 0;
            for (int k = 0; k < n; k++) {
                bytes = bytes << 8 | ((has + k) & 255);
            }
            has = board.load(0, bytes, n);
        }
        return board;
    }

    /** "A SPRITE is a row of bytes, at most 5000"; load: "or it would be more than 5000" */
    private void spritesHaveAtMost5000BytesByLoad() {
        for (int n = 1; n <= 8; n++) {
            for (int size = 4991; size <= 5000; size++) {
                BlitBoard board = withBytes(size);
                boolean room = size + n <= 5000;
                int due = room ? size + n : size;
                String call = "load " + n + " on " + size;
                answers.due(call, board.load(0, -1L, n), room ? size + n : NONE);
                answers.due(call + ": the last of before", board.part(0, size - 1), (size - 1) & 255);
                for (int k = size; k < 5010; k++) {
                    answers.due(call + ": byte " + k, board.part(0, k), k < due ? 255 : NONE);
                }
                answers.due(call + ": how many", board.forget(0), due);
                answers.due(call + ": room again", board.load(0, 1, n), n);
            }
        }
    }

    /** All bytes of a sprite that is full are still there, after loads and a tell that it has no room for. */
    private void fullSpritesStayWhole() {
        int[] row = new int[67];
        row[0] = 127;
        row[64] = 65;
        for (int k = 0; k < 64; k++) {
            row[k < 63 ? k + 1 : k + 2] = k % 2 == 0 ? 0 : 7;
        }
        for (int first = 0; first < 5000; first += 300) {
            BlitBoard board = withBytes(5000);
            answers.due("load on a full one", board.load(0, 99, 1), NONE);
            answers.due("load on a full one", board.load(0, 99, 8), NONE);
            answers.due("tell too much to a full one", board.tell(0, 0, 7), NONE);
            for (int k = first; k < Math.min(5000, first + 300); k++) {
                answers.due("byte " + k + " of a full one", board.part(0, k), k < 4288 ? row[k % 67] : k & 255);
            }
            answers.due("a full one is forgotten", board.forget(0), 5000);
        }
        answers.due("64 rows, and full of bytes behind", withBytes(5000).draw(0, 0, 0, 0), 4289);
    }

    /** load: "the n lowest bytes of a number more, the highest of them first" */
    private void numbersAtTheirEnds() {
        long[] numbers = {Long.MIN_VALUE, Long.MAX_VALUE, -1L, 0L, 1L, 0x8000000000000080L, 0x0102030405060708L, -2L};
        for (long number : numbers) {
            for (int n = 1; n <= 8; n++) {
                BlitBoard board = new BlitBoard();
                String call = "load " + number + ", " + n;
                answers.due(call, board.load(2, number, n), n);
                for (int k = 0; k < n; k++) {
                    int due = (int) Math.floorMod(number >> (8 * (n - 1 - k)), 256L);
                    answers.due(call + ": byte " + k, board.part(2, k), due);
                }
                answers.due(call + ": no more bytes", board.part(2, n), NONE);
            }
        }
    }

    /** tell: "or it would be more than 5000": rows of 97 bytes, of one byte, and one of 2 n + 1 for n single dots */
    private void spritesHaveAtMost5000BytesByTell() {
        for (int more = 0; more < 3; more++) {
            BlitBoard board = withSurface(4, 64, 64);
            for (int x = 1; x < 64; x += 2) {
                board.fill(0, x, 0, 1, 51, 7, 12);
            }
            for (int x = 1; x < 27; x += 2) {
                board.set(0, x, 60, 7);
            }
            for (int k = 0; k < more; k++) {
                board.set(0, 26 + k, 60, 8 + k);
            }
            board.load(1, 0x010203, 3);
            String call = "tell " + (4999 + more);
            answers.due(call, board.tell(1, 0, 0), more < 2 ? 4999 + more : NONE);
            answers.due(call + ": its last byte", board.part(1, 4998 + more), more < 2 ? 0 : NONE);
            answers.due(call + ": its first byte", board.part(1, 0), 1);
            answers.due(call + ": its second byte", board.part(1, 1), more < 2 ? 65 : 2);
            if (more < 2) {
                answers.due(call + ": draw", board.draw(1, 0, 0, 0), 0);
            }
            answers.due(call + ": how many", board.forget(1), more < 2 ? 4999 + more : 3);
        }
        BlitBoard board = withSurface(4, 64, 64);
        answers.due("tell no dot at all", board.tell(0, 0, 0), 64);
        for (int x = 1; x < 64; x += 2) {
            board.fill(0, x, 0, 1, 64, 7, 12);
        }
        answers.due("tell the most that there is", board.tell(0, 0, 0), NONE);
        answers.due("what was told before stays", board.forget(0), 64);
        answers.due("a forgotten one stays so", board.tell(0, 0, 0), NONE);
        answers.due("a forgotten one stays so", board.forget(0), 0);
        board.fill(0, 0, 0, 64, 64, 0, 12);
        answers.due("tell less after too much", board.tell(0, 0, 0), 64);
        answers.due("tell less after too much", board.part(0, 63), 0);
    }

    private static BlitBoard loaded(int depth, List<Integer> bytes) {
        BlitBoard board = withSurface(depth, 64, 64);
        for (int value : bytes) {
            board.load(0, value, 1);
        }
        return board;
    }

    private static BlitBoard loaded(int depth, int... bytes) {
        BlitBoard board = withSurface(depth, 64, 64);
        Answers.loadBytes(board, 0, bytes);
        return board;
    }

    /** "a byte 1 .. 63 ... 64 + n ... 128 + n ... 0 ends a row. Other bytes can't stand there" */
    private void eachByteWhereAStretchBegins() {
        for (int value = 0; value < 256; value++) {
            int n = value % 64;
            List<Integer> bytes = new ArrayList<>();
            bytes.add(value);
            int dots = value < 64 ? 0 : value < 128 ? n : Math.min(n, 1);
            for (int k = 0; k < dots; k++) {
                bytes.add(value < 128 ? 100 + k : 200);
            }
            if (value != 0) {
                bytes.add(0);
            }
            BlitBoard board = loaded(8, bytes);
            boolean stands = value < 192 && value != 64 && value != 128;
            answers.due("byte " + value, board.draw(0, 0, 0, 0), stands ? 0 : 1);
            int drawn = !stands || value < 64 ? 0 : n;
            answers.due("byte " + value + ": dots not drawn", board.count(0, 0), 4096 - drawn);
            for (int k = 0; k < drawn; k++) {
                answers.due("byte " + value + ": dot " + k, board.get(0, k, 0), value < 128 ? 100 + k : 200);
            }
            int[] before = {0, 65, 9, 0, 1, 129, 9};
            BlitBoard later = loaded(8, before);
            for (int one : bytes) {
                later.load(0, one, 1);
            }
            boolean hasRoom = 2 + n <= 64;
            answers.due("byte " + value + " behind two dots", later.draw(0, 0, 0, 0), stands && hasRoom ? 0 : 8);
        }
    }

    /** "each of a byte that follows", "of the one byte that follows": any byte, if it fits the depth */
    private void eachByteWhereADotIs() {
        int[] depths = {1, 4, 8};
        for (int depth : depths) {
            for (int value = 0; value < 256; value++) {
                boolean fits = value < 1 << depth;
                String call = "dot " + value + " on depth " + depth;
                BlitBoard each = loaded(depth, 66, 1, value, 0);
                answers.due(call, each.draw(0, 0, 0, 0), fits ? 0 : 3);
                answers.due(call + ": drawn", each.get(0, 1, 0), fits ? value : 0);
                answers.due(call + ": the one before", each.get(0, 0, 0), fits ? 1 : 0);
                BlitBoard same = loaded(depth, 130, value, 0);
                answers.due(call, same.draw(0, 0, 62, 63), fits ? 0 : 2);
                answers.due(call + ": drawn", same.get(0, 62, 63), fits ? value : 0);
                answers.due(call + ": drawn", same.get(0, 63, 63), fits ? value : 0);
            }
        }
    }

    private static void addStretch(List<Integer> bytes, int kind, int n, int v) {
        bytes.add(64 * kind + n);
        for (int k = 0; k < (kind == 0 ? 0 : kind == 1 ? n : 1); k++) {
            bytes.add(v);
        }
    }

    /** "A row has at most 64 dots": two stretches of any kinds, with 64 dots and with 65 */
    private void rowsOfAtMost64Dots() {
        for (int kinds = 0; kinds < 9; kinds++) {
            for (int n = 1; n <= 63; n++) {
                for (int all = Math.max(64, n + 1); all <= 65; all++) {
                    if (all - n <= 63) {
                        dueOfRow(kinds / 3, n, kinds % 3, all - n);
                    }
                }
            }
        }
    }

    private void dueOfRow(int kind, int n, int other, int m) {
        List<Integer> bytes = new ArrayList<>();
        addStretch(bytes, kind, n, 1);
        int place = bytes.size() + 1;
        addStretch(bytes, other, m, 1);
        bytes.add(0);
        BlitBoard board = loaded(1, bytes);
        String call = "a row of " + n + " and " + m + " dots, kinds " + kind + " and " + other;
        answers.due(call, board.draw(0, 0, 0, 0), n + m > 64 ? place : 0);
        int drawn = n + m > 64 ? 0 : (kind == 0 ? 0 : n) + (other == 0 ? 0 : m);
        answers.due(call + ": drawn", board.count(0, 1), drawn);
        if (drawn > 0 && other != 0) {
            answers.due(call + ": its last dot", board.get(0, 63, 0), 1);
        }
    }

    /** 64 stretches of one dot each, and a 65th one. */
    private void rowsOfManyStretches() {
        for (int kind = 0; kind < 3; kind++) {
            List<Integer> bytes = new ArrayList<>();
            for (int k = 0; k < 64; k++) {
                addStretch(bytes, kind, 1, 9);
            }
            List<Integer> ended = new ArrayList<>(bytes);
            ended.add(0);
            BlitBoard board = loaded(4, ended);
            answers.due("64 stretches of kind " + kind, board.draw(0, 0, 0, 5), 0);
            answers.due("64 stretches: dots", board.count(0, 9), kind == 0 ? 0 : 64);
            int place = bytes.size() + 1;
            addStretch(bytes, 0, 1, 9);
            bytes.add(0);
            BlitBoard more = loaded(4, bytes);
            answers.due("65 stretches of kind " + kind, more.draw(0, 0, 0, 5), place);
            answers.due("65 stretches: dots", more.count(0, 9), 0);
        }
    }

    /** "a sprite at most 64 rows" */
    private void atMost64Rows() {
        for (int rows = 62; rows <= 66; rows++) {
            BlitBoard empty = withSurface(8, 64, 64);
            BlitBoard dots = withSurface(8, 64, 64);
            for (int k = 0; k < rows; k++) {
                empty.load(0, 0, 1);
                dots.load(0, 0x4105, 2);
                dots.load(0, 0, 1);
            }
            answers.due(rows + " empty rows", empty.draw(0, 0, 0, 0), rows > 64 ? 65 : 0);
            answers.due(rows + " rows", dots.draw(0, 0, 0, 0), rows > 64 ? 193 : 0);
            answers.due(rows + " rows: dots", dots.count(0, 5), rows > 64 ? 0 : rows);
            answers.due(rows + " rows: the last", dots.get(0, 0, 63), rows == 64 ? 5 : 0);
            answers.due(rows + " rows far away", dots.draw(0, 0, 0, -64), rows > 64 ? 193 : 0);
        }
    }

    /** No byte can stand behind the 64th row, whichever it is. */
    private void bytesBehindTheLastRow() {
        for (int value = 0; value < 256; value++) {
            BlitBoard board = withSurface(8, 64, 64);
            for (int k = 0; k < 8; k++) {
                board.load(0, 0, 8);
            }
            answers.due("64 rows", board.draw(0, 0, 0, 0), 0);
            board.load(0, value, 1);
            answers.due("64 rows and byte " + value, board.draw(0, 0, 0, 0), 65);
            board.load(0, 0x4141, 2);
            answers.due("64 rows, byte " + value + " and more", board.draw(0, 0, 0, 0), 65);
            answers.due("nothing is drawn", board.count(0, 0), 4096);
        }
    }

    /** "(one more than it has, when it ends within a row)": every beginning of a sprite */
    private void endsWithinARow() {
        int[] bytes = {3, 66, 1, 0, 131, 5, 2, 0, 0, 129, 7, 0, 67, 0, 0, 0, 0, 63, 0, 191, 0, 0};
        boolean[] ends = new boolean[bytes.length + 1];
        int[] rowEnds = {0, 8, 9, 12, 17, 19, 22};
        for (int end : rowEnds) {
            ends[end] = true;
        }
        for (int size = 0; size <= bytes.length; size++) {
            BlitBoard board = loaded(4, Arrays.copyOf(bytes, size));
            board.fill(0, 0, 0, 64, 64, 15, 12);
            answers.due("the first " + size + " bytes", board.draw(0, 0, 0, 0), ends[size] ? 0 : size + 1);
            answers.due("dots of the first " + size + " bytes", board.count(0, 1), ends[size] && size > 0 ? 1 : 0);
            answers.due("dots of the first " + size + " bytes", board.count(0, 7), ends[size] && size > 9 ? 1 : 0);
        }
    }

    /** "its first byte that can't stand, or is a dot that does not fit": whichever of several comes first */
    private void theFirstWrongByteIsTold() {
        int[][] sprites = {
            {65, 16, 0, 64}, {65, 1, 64, 65, 16, 0}, {66, 16, 17, 0}, {66, 1, 17, 192}, {130, 16, 192},
            {64, 128, 192}, {63, 65, 16, 64, 0}, {63, 66, 16, 0}, {63, 130, 16, 0}, {192}, {128}, {64}, {65, 16},
            {65, 1, 0, 66, 1, 16}, {67, 1, 64, 0}, {129, 64}, {129, 0, 64}, {127, 1}};
        int[] places = {2, 3, 2, 3, 2, 1, 3, 2, 2, 1, 1, 1, 2, 6, 3, 2, 3, 3};
        for (int k = 0; k < sprites.length; k++) {
            BlitBoard board = loaded(4, sprites[k]);
            String call = "draw " + Arrays.toString(sprites[k]);
            answers.due(call, board.draw(0, 0, 0, 0), places[k]);
            answers.due(call + " far away", board.draw(0, 0, MOST, LEAST), places[k]);
            answers.due(call + ": nothing is drawn", board.count(0, 0), 4096);
            board.clip(0, 0, 0, 0, 0);
            answers.due(call + " within no clip", board.draw(0, 0, 0, 0), places[k]);
        }
    }

    private static final class Row {
        final List<Integer> dots = new ArrayList<>();

        Row add(int times, int v) {
            for (int k = 0; k < times; k++) {
                dots.add(v);
            }
            return this;
        }
    }

    /** A row of a surface of depth 8, told, and drawn again over a surface of another number. */
    private void dueTold(Row row, int key, List<Integer> bytes) {
        int wide = row.dots.size();
        BlitBoard board = withSurface(8, wide, 1);
        board.make(8, wide, 1);
        for (int x = 0; x < wide; x++) {
            board.set(0, x, 0, row.dots.get(x));
        }
        String call = "tell " + row.dots + " with key " + key;
        answers.due(call, board.tell(3, 0, key), bytes.size());
        for (int k = 0; k < bytes.size(); k++) {
            answers.due(call + ": byte " + k, board.part(3, k), bytes.get(k));
        }
        answers.due(call + ": no more bytes", board.part(3, bytes.size()), NONE);
        board.fill(1, 0, 0, 64, 1, 77, 12);
        answers.due(call + ": draw", board.draw(3, 1, 0, 0), 0);
        for (int x = 0; x < wide; x++) {
            int dot = row.dots.get(x);
            answers.due(call + ": drawn " + x, board.get(1, x, 0), dot == key ? 77 : dot);
        }
    }

    /** "dots with the key are not drawn": the least and the most key, and keys that no dot can have */
    private void keysAreNotDrawn() {
        Row row = new Row().add(1, 0).add(1, 255).add(1, 1).add(2, 0).add(1, 255);
        dueTold(row, 0, Arrays.asList(1, 66, 255, 1, 2, 65, 255, 0));
        dueTold(row, 255, Arrays.asList(65, 0, 1, 67, 1, 0, 0, 0));
        dueTold(row, 1, Arrays.asList(66, 0, 255, 1, 67, 0, 0, 255, 0));
        int[] keys = {LEAST, -256, -255, -1, 2, 254, 256, 511, 512, 65536, MOST};
        for (int key : keys) {
            dueTold(row, key, Arrays.asList(70, 0, 255, 1, 0, 0, 255, 0));
        }
        for (int depth = 1; depth <= 4; depth += 3) {
            BlitBoard board = withSurface(depth, 3, 1);
            answers.due("a key one more than fits", board.tell(0, 0, 1 << depth), 3);
            answers.dueBytes("a key one more than fits", board, 0, 131, 0, 0);
            answers.due("the largest key that fits", board.tell(0, 0, (1 << depth) - 1), 3);
            board.set(0, 0, 0, (1 << depth) - 1);
            answers.due("the largest key that fits", board.tell(0, 0, (1 << depth) - 1), 5);
            answers.dueBytes("the largest key that fits", board, 0, 1, 66, 0, 0, 0);
        }
    }

    /** "those behind the last other one of a row are not told" */
    private void whatIsBehindTheLastIsNotTold() {
        for (int wide = 1; wide <= 64; wide++) {
            dueTold(new Row().add(wide, 6), 6, Arrays.asList(0));
            for (int behind = 0; behind < wide; behind += wide < 5 ? 1 : 7) {
                int before = wide - behind - 1;
                Row row = new Row().add(before, 6).add(1, 8).add(behind, 6);
                dueTold(row, 6, before == 0 ? Arrays.asList(65, 8, 0) : Arrays.asList(before, 65, 8, 0));
            }
        }
    }

    /** "Dots that are not drawn, side by side, are one stretch, but for each 63" */
    private void notDrawnSideBySide() {
        for (int n = 1; n <= 63; n++) {
            dueTold(new Row().add(n, 0).add(1, 1), 0, Arrays.asList(n, 65, 1, 0));
            if (n < 63) {
                dueTold(new Row().add(1, 2).add(n, 0).add(1, 1), 0, Arrays.asList(65, 2, n, 65, 1, 0));
            }
        }
        dueTold(new Row().add(1, 2).add(62, 0).add(1, 2), 0, Arrays.asList(65, 2, 62, 65, 2, 0));
    }

    /** "three or more of one number, as many as there are, are told by 128 + n", "but for each 63" */
    private void threeOrMoreOfOneNumber() {
        dueTold(new Row().add(1, 9), 0, Arrays.asList(65, 9, 0));
        dueTold(new Row().add(2, 9), 0, Arrays.asList(66, 9, 9, 0));
        for (int n = 3; n <= 63; n++) {
            dueTold(new Row().add(n, 9), 0, Arrays.asList(128 + n, 9, 0));
            dueTold(new Row().add(n, 9).add(1, 0), 0, Arrays.asList(128 + n, 9, 0));
            dueTold(new Row().add(n, 9).add(1, 8), 0, Arrays.asList(128 + n, 9, 65, 8, 0));
            dueTold(new Row().add(1, 8).add(n, 9), 0, Arrays.asList(65, 8, 128 + n, 9, 0));
            dueTold(new Row().add(1, 0).add(n, 9), 0, Arrays.asList(1, 128 + n, 9, 0));
        }
        dueTold(new Row().add(64, 9), 0, Arrays.asList(191, 9, 129, 9, 0));
        dueTold(new Row().add(64, 0), 1, Arrays.asList(191, 0, 129, 0, 0));
        dueTold(new Row().add(64, 255), -1, Arrays.asList(191, 255, 129, 255, 0));
    }

    /** "those between, as many as there are, by 64 + n", "but for each 63": numbers in turn, up to 64 of them */
    private void thoseBetween() {
        for (int n = 1; n <= 64; n++) {
            Row row = new Row();
            List<Integer> bytes = new ArrayList<>();
            for (int k = 0; k < n; k++) {
                if (k % 63 == 0) {
                    bytes.add(64 + Math.min(63, n - k));
                }
                row.add(1, 1 + k / 2 % 2);
                bytes.add(1 + k / 2 % 2);
            }
            bytes.add(0);
            dueTold(row, 0, bytes);
        }
    }

    /** Two of a number are told with those between them, three are not, on either side of others. */
    private void neighboursOfThree() {
        dueTold(new Row().add(3, 1).add(3, 2).add(3, 3), 0, Arrays.asList(131, 1, 131, 2, 131, 3, 0));
        dueTold(new Row().add(3, 1).add(2, 2).add(3, 1), 0, Arrays.asList(131, 1, 66, 2, 2, 131, 1, 0));
        dueTold(new Row().add(2, 1).add(3, 2).add(2, 1), 0, Arrays.asList(66, 1, 1, 131, 2, 66, 1, 1, 0));
        dueTold(new Row().add(2, 1).add(2, 2).add(2, 1), 0, Arrays.asList(70, 1, 1, 2, 2, 1, 1, 0));
        dueTold(new Row().add(2, 1).add(1, 0).add(1, 1), 0, Arrays.asList(66, 1, 1, 1, 65, 1, 0));
        dueTold(new Row().add(2, 1).add(3, 0).add(2, 1), 0, Arrays.asList(66, 1, 1, 3, 66, 1, 1, 0));
        dueTold(new Row().add(3, 1).add(1, 0).add(3, 1), 0, Arrays.asList(131, 1, 1, 131, 1, 0));
        dueTold(new Row().add(61, 1).add(3, 2), 0, Arrays.asList(189, 1, 131, 2, 0));
        dueTold(new Row().add(62, 1).add(2, 2), 0, Arrays.asList(190, 1, 66, 2, 2, 0));
        dueTold(new Row().add(63, 1).add(1, 2), 0, Arrays.asList(191, 1, 65, 2, 0));
        dueTold(new Row().add(1, 2).add(63, 1), 0, Arrays.asList(65, 2, 191, 1, 0));
        dueTold(new Row().add(32, 1).add(32, 2), 0, Arrays.asList(160, 1, 160, 2, 0));
    }

    /** "row by row": no stretch goes on from one row to the next, and each row ends. */
    private void rowsStartAnew() {
        BlitBoard board = withSurface(4, 2, 4);
        Answers.paint(board, 0, "11", "11", "01", "10");
        answers.due("tell four rows", board.tell(0, 0, 0), 4 + 4 + 4 + 3);
        answers.dueBytes("tell four rows", board, 0, 66, 1, 1, 0, 66, 1, 1, 0, 1, 65, 1, 0, 65, 1, 0);
        BlitBoard column = withSurface(1, 1, 64);
        answers.due("tell a column of the key", column.tell(0, 0, 0), 64);
        answers.due("tell a column of others", column.tell(0, 0, 1), 192);
        answers.due("64 rows can be drawn", column.draw(0, 0, 0, 0), 0);
        BlitBoard wide = withSurface(8, 64, 64);
        answers.due("tell rows of 64", wide.tell(0, 0, 255), 64 * 5);
        answers.due("rows of 64 can be drawn", wide.draw(0, 0, 0, 0), 0);
    }

    /** Each row of one to seven dots with the numbers 0, 1 and 2, beside the model. */
    private void everyShortRow() {
        for (int wide = 1; wide <= 7; wide++) {
            int rows = (int) Math.pow(3, wide);
            for (int code = 0; code < rows; code++) {
                BlitBoard board = withSurface(4, wide, 1);
                Model model = new Model();
                model.make(4, wide, 1);
                for (int x = 0, rest = code; x < wide; x++, rest /= 3) {
                    board.set(0, x, 0, rest % 3);
                    model.set(0, x, 0, rest % 3);
                }
                dueAsModel("row " + Integer.toString(code, 3), board, model);
            }
        }
    }

    private void dueAsModel(String call, BlitBoard board, Model model) {
        int size = model.tell(0, 0, 0);
        answers.due(call, board.tell(0, 0, 0), size);
        for (int k = 0; k <= size; k++) {
            answers.due(call + ": byte " + k, board.part(0, k), model.part(0, k));
        }
    }
}
