import java.util.ArrayList;
import java.util.List;

/** A second program with the face of the board, written from the document dot by dot, without care for speed. */
final class Model {
    private static final int NONE = -1;

    private static final class Sheet {
        int depth;
        int[][] dots;
        boolean[][] open;

        boolean has(long x, long y) {
            return y >= 0 && y < dots.length && x >= 0 && x < dots[0].length;
        }

        boolean isOpen(long x, long y) {
            return has(x, y) && open[(int) y][(int) x];
        }

        boolean fits(int v) {
            return v >= 0 && v < Math.pow(2, depth);
        }

        int at(long x, long y) {
            return dots[(int) y][(int) x];
        }

        void put(long x, long y, int v) {
            dots[(int) y][(int) x] = v;
        }

        Sheet twin() {
            Sheet twin = new Sheet();
            twin.depth = depth;
            twin.dots = new int[dots.length][];
            for (int y = 0; y < dots.length; y++) {
                twin.dots[y] = dots[y].clone();
            }
            return twin;
        }
    }

    /** What becomes of a dot: s comes, d is there, (x, y) is the place it comes from. */
    private interface Rule {
        int becomes(int s, int d, long x, long y);
    }

    private final List<Sheet> sheets = new ArrayList<>();
    private final List<List<Integer>> sprites = new ArrayList<>();

    Model() {
        for (int k = 0; k < 4; k++) {
            sprites.add(new ArrayList<>());
        }
    }

    private Sheet sheet(int number) {
        return number < 0 || number >= sheets.size() ? null : sheets.get(number);
    }

    private List<Integer> sprite(int number) {
        return number < 0 || number > 3 ? null : sprites.get(number);
    }

    private static boolean outside(int n, int least, int most) {
        return n < least || n > most;
    }

    int make(int depth, int wide, int high) {
        if ((depth != 1 && depth != 4 && depth != 8) || outside(wide, 1, 64) || outside(high, 1, 64)) return NONE;
        if (sheets.size() == 8) return NONE;
        Sheet made = new Sheet();
        made.depth = depth;
        made.dots = new int[high][wide];
        made.open = new boolean[high][wide];
        sheets.add(made);
        clip(sheets.size() - 1, 0, 0, wide, high);
        return sheets.size() - 1;
    }

    int clip(int surface, int x, int y, int wide, int high) {
        Sheet on = sheet(surface);
        if (on == null || outside(wide, 0, 64) || outside(high, 0, 64)) return NONE;
        int dots = 0;
        for (int row = 0; row < on.dots.length; row++) {
            for (int column = 0; column < on.dots[0].length; column++) {
                boolean within = column >= x && column < (long) x + wide && row >= y && row < (long) y + high;
                on.open[row][column] = within;
                dots += within ? 1 : 0;
            }
        }
        return dots;
    }

    int set(int surface, int x, int y, int v) {
        Sheet on = sheet(surface);
        if (on == null || !on.has(x, y) || !on.fits(v)) return 0;
        on.put(x, y, v);
        return 1;
    }

    int get(int surface, int x, int y) {
        Sheet on = sheet(surface);
        return on == null || !on.has(x, y) ? NONE : on.at(x, y);
    }

    int told(int surface, int what) {
        Sheet on = sheet(surface);
        if (on == null || outside(what, 0, 6)) return NONE;
        if (what == 0) return on.depth;
        if (what == 1) return on.dots[0].length;
        if (what == 2) return on.dots.length;
        int left = 64, top = 64, right = -1, bottom = -1;
        for (int y = 0; y < on.dots.length; y++) {
            for (int x = 0; x < on.dots[0].length; x++) {
                if (on.open[y][x]) {
                    left = Math.min(left, x);
                    top = Math.min(top, y);
                    right = Math.max(right, x);
                    bottom = Math.max(bottom, y);
                }
            }
        }
        if (right < 0) return 0;
        return new int[] {left, top, right - left + 1, bottom - top + 1}[what - 3];
    }

    private static int operate(int operation, int depth, int s, int d) {
        int made = 0;
        for (int bit = 0; bit < depth; bit++) {
            int row = 2 * ((s >> bit) & 1) + ((d >> bit) & 1);
            made += ((operation >> row) & 1) << bit;
        }
        return made;
    }

    int fill(int surface, int x, int y, int wide, int high, int v, int operation) {
        Sheet on = sheet(surface);
        if (on == null || outside(operation, 0, 15) || outside(wide, 0, 64) || outside(high, 0, 64)) return NONE;
        if (!on.fits(v)) return NONE;
        int dots = 0;
        for (int j = 0; j < high; j++) {
            for (int i = 0; i < wide; i++) {
                long column = (long) x + i;
                long row = (long) y + j;
                if (on.isOpen(column, row)) {
                    on.put(column, row, operate(operation, on.depth, v, on.at(column, row)));
                    dots++;
                }
            }
        }
        return dots;
    }

    private static int move(Sheet from, int[] r, Sheet to, Rule rule) {
        Sheet before = from.twin();
        int dots = 0;
        for (int j = 0; j < r[3]; j++) {
            for (int i = 0; i < r[2]; i++) {
                long x = (long) r[0] + i, y = (long) r[1] + j, u = (long) r[4] + i, v = (long) r[5] + j;
                if (before.has(x, y) && to.isOpen(u, v)) {
                    to.put(u, v, rule.becomes(before.at(x, y), to.at(u, v), x, y));
                    dots++;
                }
            }
        }
        return dots;
    }

    private boolean canMove(int from, int[] r, int to) {
        return sheet(from) != null && sheet(to) != null && !outside(r[2], 0, 64) && !outside(r[3], 0, 64);
    }

    int copy(int from, int[] r, int to, int operation) {
        if (!canMove(from, r, to) || outside(operation, 0, 15)) return NONE;
        int depth = sheet(from).depth;
        if (depth != sheet(to).depth) return NONE;
        return move(sheet(from), r, sheet(to), (s, d, x, y) -> operate(operation, depth, s, d));
    }

    int keyed(int from, int[] r, int to, int key) {
        if (!canMove(from, r, to) || sheet(from).depth != sheet(to).depth || !sheet(from).fits(key)) return NONE;
        return move(sheet(from), r, sheet(to), (s, d, x, y) -> s == key ? d : s);
    }

    int masked(int from, int[] r, int to, int mask) {
        if (!canMove(from, r, to) || sheet(from).depth != sheet(to).depth) return NONE;
        if (sheet(mask) == null || sheet(mask).depth != 1) return NONE;
        Sheet through = sheet(mask).twin();
        return move(sheet(from), r, sheet(to), (s, d, x, y) -> through.has(x, y) && through.at(x, y) == 1 ? s : d);
    }

    int spread(int from, int[] r, int to, int zero, int one) {
        if (!canMove(from, r, to) || sheet(from).depth != 1 || !sheet(to).fits(zero) || !sheet(to).fits(one)) return NONE;
        return move(sheet(from), r, sheet(to), (s, d, x, y) -> s == 1 ? one : zero);
    }

    int turn(int surface, int way) {
        Sheet on = sheet(surface);
        if (on == null || outside(way, 0, 1)) return 0;
        Sheet before = on.twin();
        int high = on.dots.length, wide = on.dots[0].length;
        for (int y = 0; y < high; y++) {
            for (int x = 0; x < wide; x++) {
                on.put(x, y, way == 0 ? before.at(wide - 1 - x, y) : before.at(x, high - 1 - y));
            }
        }
        return 1;
    }

    int count(int surface, int v) {
        Sheet on = sheet(surface);
        if (on == null) return NONE;
        int found = 0;
        for (int[] row : on.dots) {
            for (int dot : row) found += dot == v ? 1 : 0;
        }
        return found;
    }

    int tell(int sprite, int surface, int key) {
        Sheet of = sheet(surface);
        if (sprite(sprite) == null || of == null) return NONE;
        List<Integer> bytes = new ArrayList<>();
        for (int[] row : of.dots) tellRow(row, key, bytes);
        if (bytes.size() > 5000) return NONE;
        sprites.set(sprite, bytes);
        return bytes.size();
    }

    /** First the row is cut into pieces of one number, then short ones that are drawn are gathered. */
    private static void tellRow(int[] row, int key, List<Integer> bytes) {
        int end = row.length;
        while (end > 0 && row[end - 1] == key) end--;
        List<Integer> gathered = new ArrayList<>();
        for (int at = 0; at < end; ) {
            int next = at;
            while (next < end && row[next] == row[at]) next++;
            int length = next - at;
            if (row[at] != key && length < 3) {
                for (int k = 0; k < length; k++) gathered.add(row[at]);
            } else {
                tellGathered(gathered, bytes);
                for (; length > 0; length -= 63) {
                    int part = Math.min(63, length);
                    bytes.add(row[at] == key ? part : 128 + part);
                    if (row[at] != key) bytes.add(row[at]);
                }
            }
            at = next;
        }
        tellGathered(gathered, bytes);
        bytes.add(0);
    }

    private static void tellGathered(List<Integer> gathered, List<Integer> bytes) {
        while (!gathered.isEmpty()) {
            List<Integer> part = gathered.subList(0, Math.min(63, gathered.size()));
            bytes.add(64 + part.size());
            bytes.addAll(part);
            part.clear();
        }
    }

    int load(int sprite, long bytes, int n) {
        List<Integer> into = sprite(sprite);
        if (into == null || outside(n, 1, 8) || into.size() + n > 5000) return NONE;
        String digits = String.format("%016x", bytes);
        for (int k = 8 - n; k < 8; k++) into.add(Integer.parseInt(digits.substring(2 * k, 2 * k + 2), 16));
        return into.size();
    }

    int forget(int sprite) {
        List<Integer> of = sprite(sprite);
        if (of == null) return NONE;
        int had = of.size();
        of.clear();
        return had;
    }

    int part(int sprite, int k) {
        List<Integer> of = sprite(sprite);
        return of == null || k < 0 || k >= of.size() ? NONE : of.get(k);
    }

    int draw(int sprite, int surface, int x, int y) {
        List<Integer> of = sprite(sprite);
        Sheet on = sheet(surface);
        if (of == null || on == null) return NONE;
        List<int[]> dots = new ArrayList<>();
        int wrong = read(of, on, dots);
        if (wrong != 0) return wrong;
        for (int[] dot : dots) {
            long column = (long) x + dot[0], row = (long) y + dot[1];
            if (on.isOpen(column, row)) on.put(column, row, dot[2]);
        }
        return 0;
    }

    private static int read(List<Integer> bytes, Sheet on, List<int[]> dots) {
        int at = 0;
        for (int row = 0; at < bytes.size(); row++) {
            if (row == 64) return at + 1;
            int column = 0;
            while (true) {
                if (at == bytes.size()) return at + 1;
                int head = bytes.get(at);
                if (head == 0) break;
                int kind = head / 64, length = head % 64;
                if (kind == 3 || length == 0 || column + length > 64) return at + 1;
                at++;
                int value = 0;
                for (int k = 0; k < length; k++) {
                    if (kind == 1 || (kind == 2 && k == 0)) {
                        if (at == bytes.size()) return at + 1;
                        value = bytes.get(at);
                        if (!on.fits(value)) return at + 1;
                        at++;
                    }
                    if (kind > 0) dots.add(new int[] {column + k, row, value});
                }
                column += length;
            }
            at++;
        }
        return 0;
    }
}
