import java.util.Arrays;

public final class BlitBoard {
    public static final int NONE = -1;

    private static final int MOST_SURFACES = 8;
    private static final int MOST_SPRITES = 4;
    private static final int MOST_BYTES = 5000;
    private static final int LONGEST_SIDE = 64;
    private static final int LONGEST_STRETCH = 63;
    private static final int MOST_LOADED = 8;
    private static final int LAST_OPERATION = 15;
    private static final int TAKE = 12;

    // What a sprite's byte has beyond its stretch's length.
    private static final int EACH = 64;
    private static final int SAME = 128;

    // No dot has this number, so it can stand among those taken for one that is not to be put.
    private static final int STAYS = -1;

    private final Surface[] surfaces;
    private int surfaceCount;
    private final Sprite[] sprites;

    // Both are made once and used by every call: nothing that a run makes is given back.
    private Sprite spare;
    private final int[] taken;

    public BlitBoard() {
        surfaces = new Surface[MOST_SURFACES];
        surfaceCount = 0;
        sprites = new Sprite[MOST_SPRITES];
        for (int k = 0; k < MOST_SPRITES; k++) {
            sprites[k] = new Sprite();
        }
        spare = new Sprite();
        taken = new int[LONGEST_SIDE * LONGEST_SIDE];
    }

    public int make(int depth, int wide, int high) {
        boolean known = depth == 1 || depth == 4 || depth == 8;
        boolean sized = wide > 0 && high > 0 && isSide(wide) && isSide(high);
        if (!known || !sized || surfaceCount >= MOST_SURFACES) {
            return NONE;
        }
        surfaces[surfaceCount] = new Surface(depth, wide, high);
        surfaceCount++;
        return surfaceCount - 1;
    }

    public int clip(int surface, int x, int y, int wide, int high) {
        Surface on = surfaceAt(surface);
        if (on == null || !isSide(wide) || !isSide(high)) {
            return NONE;
        }
        on.clip = on.whole.shared(new Area(x, y, wide, high));
        return on.clip.size();
    }

    public int set(int surface, int x, int y, int v) {
        Surface on = surfaceAt(surface);
        if (on == null || !on.whole.holds(x, y) || !on.fits(v)) {
            return 0;
        }
        on.dots[on.indexOf(x, y)] = v;
        return 1;
    }

    public int get(int surface, int x, int y) {
        Surface on = surfaceAt(surface);
        if (on == null || !on.whole.holds(x, y)) {
            return NONE;
        }
        return on.dots[on.indexOf(x, y)];
    }

    public int told(int surface, int what) {
        Surface on = surfaceAt(surface);
        if (on == null) {
            return NONE;
        }
        switch (what) {
            case 0:
                return on.depth;
            case 1:
                return on.whole.wide;
            case 2:
                return on.whole.high;
            case 3:
                return (int) on.clip.left;
            case 4:
                return (int) on.clip.top;
            case 5:
                return on.clip.wide;
            case 6:
                return on.clip.high;
            default:
                return NONE;
        }
    }

    public int fill(int surface, int x, int y, int wide, int high, int v, int operation) {
        Surface on = surfaceAt(surface);
        if (on == null || !on.fits(v) || !isOperation(operation) || !isSide(wide) || !isSide(high)) {
            return NONE;
        }
        Area target = on.clip.shared(new Area(x, y, wide, high));
        Arrays.fill(taken, 0, target.size(), v);
        putDots(on, target, operation);
        return target.size();
    }

    public int copy(int from, int x, int y, int wide, int high, int to, int u, int v, int operation) {
        Move move = moveOf(surfaceAt(from), new Area(x, y, wide, high), surfaceAt(to), u, v);
        if (move == null || !move.keepsDepth() || !isOperation(operation)) {
            return NONE;
        }
        takeDots(move);
        putDots(move.to, move.target, operation);
        return move.target.size();
    }

    public int keyed(int from, int x, int y, int wide, int high, int to, int u, int v, int key) {
        Move move = moveOf(surfaceAt(from), new Area(x, y, wide, high), surfaceAt(to), u, v);
        if (move == null || !move.keepsDepth() || !move.to.fits(key)) {
            return NONE;
        }
        takeDots(move);
        dropKey(move.target.size(), key);
        putDots(move.to, move.target, TAKE);
        return move.target.size();
    }

    public int masked(int from, int x, int y, int wide, int high, int to, int u, int v, int mask) {
        Move move = moveOf(surfaceAt(from), new Area(x, y, wide, high), surfaceAt(to), u, v);
        Surface through = surfaceAt(mask);
        if (move == null || !move.keepsDepth() || through == null || through.depth != 1) {
            return NONE;
        }
        takeDots(move);
        dropMasked(move.source, through);
        putDots(move.to, move.target, TAKE);
        return move.target.size();
    }

    public int spread(int from, int x, int y, int wide, int high, int to, int u, int v, int zero, int one) {
        Move move = moveOf(surfaceAt(from), new Area(x, y, wide, high), surfaceAt(to), u, v);
        if (move == null || move.from.depth != 1 || !move.to.fits(zero) || !move.to.fits(one)) {
            return NONE;
        }
        takeDots(move);
        for (int k = 0; k < move.target.size(); k++) {
            taken[k] = taken[k] == 0 ? zero : one;
        }
        putDots(move.to, move.target, TAKE);
        return move.target.size();
    }

    public int turn(int surface, int way) {
        Surface on = surfaceAt(surface);
        if (on == null || way < 0 || way > 1) {
            return 0;
        }
        if (way == 0) {
            on.swapLeftAndRight();
        } else {
            on.swapTopAndBottom();
        }
        return 1;
    }

    public int count(int surface, int v) {
        Surface on = surfaceAt(surface);
        if (on == null) {
            return NONE;
        }
        int found = 0;
        for (int dot : on.dots) {
            if (dot == v) {
                found++;
            }
        }
        return found;
    }

    public int tell(int sprite, int surface, int key) {
        Sprite old = spriteAt(sprite);
        Surface of = surfaceAt(surface);
        if (old == null || of == null) {
            return NONE;
        }
        spare.empty();
        new Teller(of, key, spare).addRows();
        if (spare.spilled) {
            return NONE;
        }
        // The two change roles, so that a sprite too long never touches the old bytes.
        sprites[sprite] = spare;
        spare = old;
        return sprites[sprite].size;
    }

    public int load(int sprite, long bytes, int n) {
        Sprite into = spriteAt(sprite);
        if (into == null || n < 1 || n > MOST_LOADED || into.size + n > MOST_BYTES) {
            return NONE;
        }
        for (int k = n - 1; k >= 0; k--) {
            into.append((int) (bytes >>> (8 * k)) & 255);
        }
        return into.size;
    }

    public int forget(int sprite) {
        Sprite of = spriteAt(sprite);
        if (of == null) {
            return NONE;
        }
        int had = of.size;
        of.empty();
        return had;
    }

    public int part(int sprite, int k) {
        Sprite of = spriteAt(sprite);
        if (of == null || k < 0 || k >= of.size) {
            return NONE;
        }
        return of.bytes[k];
    }

    public int draw(int sprite, int surface, int x, int y) {
        Sprite of = spriteAt(sprite);
        Surface on = surfaceAt(surface);
        if (of == null || on == null) {
            return NONE;
        }
        int wrong = of.firstWrong(on.largest);
        if (wrong == 0) {
            of.paint(on, x, y);
        }
        return wrong;
    }

    public int check() {
        for (int k = 0; k < surfaceCount; k++) {
            if (!surfaces[k].isSound()) {
                return 0;
            }
        }
        return 1;
    }

    private Surface surfaceAt(int number) {
        return number >= 0 && number < surfaceCount ? surfaces[number] : null;
    }

    private Sprite spriteAt(int number) {
        return number >= 0 && number < MOST_SPRITES ? sprites[number] : null;
    }

    private static boolean isSide(int side) {
        return side >= 0 && side <= LONGEST_SIDE;
    }

    private static boolean isOperation(int operation) {
        return operation >= 0 && operation <= LAST_OPERATION;
    }

    private static Move moveOf(Surface from, Area area, Surface to, int u, int v) {
        if (from == null || to == null || !isSide(area.wide) || !isSide(area.high)) {
            return null;
        }
        return new Move(from, area, to, u, v);
    }

    // All dots are taken before any is put: the two surfaces may be one.
    private void takeDots(Move move) {
        Area source = move.source;
        for (int row = 0; row < source.high; row++) {
            int start = move.from.indexOf(source.left, source.top + row);
            System.arraycopy(move.from.dots, start, taken, row * source.wide, source.wide);
        }
    }

    private void dropKey(int size, int key) {
        for (int k = 0; k < size; k++) {
            if (taken[k] == key) {
                taken[k] = STAYS;
            }
        }
    }

    private void dropMasked(Area source, Surface mask) {
        for (int row = 0; row < source.high; row++) {
            for (int column = 0; column < source.wide; column++) {
                if (!mask.isOne(source.left + column, source.top + row)) {
                    taken[row * source.wide + column] = STAYS;
                }
            }
        }
    }

    private void putDots(Surface on, Area target, int operation) {
        for (int row = 0; row < target.high; row++) {
            int start = on.indexOf(target.left, target.top + row);
            for (int column = 0; column < target.wide; column++) {
                int comes = taken[row * target.wide + column];
                if (comes != STAYS) {
                    int there = on.dots[start + column];
                    on.dots[start + column] = combined(operation, comes, there) & on.largest;
                }
            }
        }
    }

    private static int combined(int operation, int comes, int there) {
        int bits = 0;
        if ((operation & 1) != 0) {
            bits |= ~comes & ~there;
        }
        if ((operation & 2) != 0) {
            bits |= ~comes & there;
        }
        if ((operation & 4) != 0) {
            bits |= comes & ~there;
        }
        if ((operation & 8) != 0) {
            bits |= comes & there;
        }
        return bits;
    }

    // Places are long: a rectangle may begin at any int, and its end must not wrap around.
    private static final class Area {
        final long left;
        final long top;
        final int wide;
        final int high;

        Area(long left, long top, int wide, int high) {
            this.left = left;
            this.top = top;
            this.wide = wide;
            this.high = high;
        }

        int size() {
            return wide * high;
        }

        boolean holds(long x, long y) {
            return x >= left && x < left + wide && y >= top && y < top + high;
        }

        Area movedBy(long right, long down) {
            return new Area(left + right, top + down, wide, high);
        }

        // What has no dots is told as all 0, wherever its edges are.
        Area shared(Area other) {
            long newLeft = Math.max(left, other.left);
            long newTop = Math.max(top, other.top);
            long newWide = Math.min(left + wide, other.left + other.wide) - newLeft;
            long newHigh = Math.min(top + high, other.top + other.high) - newTop;
            if (newWide <= 0 || newHigh <= 0) {
                return new Area(0, 0, 0, 0);
            }
            return new Area(newLeft, newTop, (int) newWide, (int) newHigh);
        }
    }

    private static final class Surface {
        final int depth;
        final int largest;
        final Area whole;
        final int[] dots;
        Area clip;

        Surface(int depth, int wide, int high) {
            this.depth = depth;
            largest = (1 << depth) - 1;
            whole = new Area(0, 0, wide, high);
            dots = new int[wide * high];
            clip = whole;
        }

        boolean fits(int v) {
            return v >= 0 && v <= largest;
        }

        int indexOf(long x, long y) {
            return (int) (y * whole.wide + x);
        }

        boolean isOne(long x, long y) {
            return whole.holds(x, y) && dots[indexOf(x, y)] == 1;
        }

        void putClipped(long x, long y, int v) {
            if (clip.holds(x, y)) {
                dots[indexOf(x, y)] = v;
            }
        }

        void swapLeftAndRight() {
            for (int y = 0; y < whole.high; y++) {
                for (int x = 0; x < whole.wide / 2; x++) {
                    swapDots(indexOf(x, y), indexOf(whole.wide - 1 - x, y));
                }
            }
        }

        void swapTopAndBottom() {
            for (int y = 0; y < whole.high / 2; y++) {
                for (int x = 0; x < whole.wide; x++) {
                    swapDots(indexOf(x, y), indexOf(x, whole.high - 1 - y));
                }
            }
        }

        private void swapDots(int one, int other) {
            int kept = dots[one];
            dots[one] = dots[other];
            dots[other] = kept;
        }

        boolean isSound() {
            for (int dot : dots) {
                if (!fits(dot)) {
                    return false;
                }
            }
            boolean begins = clip.left >= 0 && clip.top >= 0;
            return begins && clip.left + clip.wide <= whole.wide && clip.top + clip.high <= whole.high;
        }
    }

    private static final class Move {
        final Surface from;
        final Surface to;
        final Area source;
        final Area target;

        Move(Surface from, Area area, Surface to, int u, int v) {
            long right = u - area.left;
            long down = v - area.top;
            this.from = from;
            this.to = to;
            target = from.whole.shared(area).movedBy(right, down).shared(to.clip);
            source = target.movedBy(-right, -down);
        }

        boolean keepsDepth() {
            return from.depth == to.depth;
        }
    }

    private static final class Sprite {
        final int[] bytes;
        int size;
        boolean spilled;

        Sprite() {
            bytes = new int[MOST_BYTES];
            size = 0;
            spilled = false;
        }

        void empty() {
            size = 0;
            spilled = false;
        }

        void append(int value) {
            if (size >= MOST_BYTES) {
                spilled = true;
                return;
            }
            bytes[size] = value;
            size++;
        }

        // Counted from 1 on; 0 when all bytes can stand.
        int firstWrong(int largest) {
            int rows = 0;
            int column = 0;
            int dotsDue = 0;
            boolean withinRow = false;
            for (int k = 0; k < size; k++) {
                int value = bytes[k];
                if (dotsDue > 0) {
                    if (value > largest) {
                        return k + 1;
                    }
                    dotsDue--;
                } else if (rows == LONGEST_SIDE) {
                    return k + 1;
                } else if (value == 0) {
                    rows++;
                    column = 0;
                    withinRow = false;
                } else {
                    column += stretchLength(value);
                    if (!isStretch(value) || column > LONGEST_SIDE) {
                        return k + 1;
                    }
                    dotsDue = dotBytes(value);
                    withinRow = true;
                }
            }
            return withinRow ? size + 1 : 0;
        }

        void paint(Surface on, int x, int y) {
            int row = 0;
            int column = 0;
            int dotsDue = 0;
            int times = 0;
            for (int k = 0; k < size; k++) {
                int value = bytes[k];
                if (dotsDue > 0) {
                    paintDots(on, (long) x + column, (long) y + row, times, value);
                    column += times;
                    dotsDue--;
                } else if (value == 0) {
                    row++;
                    column = 0;
                } else if (value < EACH) {
                    column += value;
                } else {
                    dotsDue = dotBytes(value);
                    times = value < SAME ? 1 : stretchLength(value);
                }
            }
        }

        private static void paintDots(Surface on, long x, long y, int times, int v) {
            for (int k = 0; k < times; k++) {
                on.putClipped(x + k, y, v);
            }
        }

        private static boolean isStretch(int value) {
            return stretchLength(value) > 0 && value <= SAME + LONGEST_STRETCH;
        }

        private static int stretchLength(int value) {
            return value & LONGEST_STRETCH;
        }

        private static int dotBytes(int value) {
            if (value < EACH) {
                return 0;
            }
            return value < SAME ? stretchLength(value) : 1;
        }
    }

    private static final class Teller {
        private final Surface of;
        private final int key;
        private final Sprite into;

        Teller(Surface of, int key, Sprite into) {
            this.of = of;
            this.key = key;
            this.into = into;
        }

        void addRows() {
            for (int y = 0; y < of.whole.high; y++) {
                addRow(of.indexOf(0, y));
                into.append(0);
            }
        }

        private void addRow(int first) {
            int end = toldEnd(first);
            int start = first;
            int kind = kindAt(first, first);
            for (int at = first + 1; at <= end; at++) {
                int next = at < end ? kindAt(first, at) : NONE;
                if (next != kind || (next == SAME && of.dots[at] != of.dots[at - 1])) {
                    addStretch(kind, start, at);
                    start = at;
                    kind = next;
                }
            }
        }

        private int toldEnd(int first) {
            int end = first;
            for (int at = first; at < first + of.whole.wide; at++) {
                if (of.dots[at] != key) {
                    end = at + 1;
                }
            }
            return end;
        }

        // What is added to a stretch's length: 0 for dots that are not drawn, EACH or SAME.
        private int kindAt(int first, int at) {
            if (of.dots[at] == key) {
                return 0;
            }
            boolean three = isThree(first, at - 2) || isThree(first, at - 1) || isThree(first, at);
            return three ? SAME : EACH;
        }

        private boolean isThree(int first, int at) {
            if (at < first || at + 2 >= first + of.whole.wide) {
                return false;
            }
            return of.dots[at] == of.dots[at + 1] && of.dots[at] == of.dots[at + 2];
        }

        private void addStretch(int kind, int start, int end) {
            for (int at = start; at < end; at += LONGEST_STRETCH) {
                int length = Math.min(LONGEST_STRETCH, end - at);
                into.append(kind + length);
                int dotsTold = kind == EACH ? length : Math.min(kind, 1);
                for (int k = 0; k < dotsTold; k++) {
                    into.append(of.dots[at + k]);
                }
            }
        }
    }
}
