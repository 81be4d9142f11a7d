import java.util.Random;

/** Mixed runs of calls, the same on the board and on the model; each object is used for at most 512 calls. */
public final class ModelTest {
    private static final int RUNS = 3000;
    private static final int CALLS = 512;
    private static final int[] DEPTHS = {1, 4, 8};

    private final Random random;
    private final Answers answers;
    private final BlitBoard board = new BlitBoard();
    private final Model model = new Model();
    private final boolean large;
    private int calls = 0;

    private ModelTest(long seed, Answers answers) {
        random = new Random(seed);
        this.answers = answers;
        large = seed % 3 == 0;
    }

    public static void main(String[] args) {
        Answers answers = new Answers();
        for (int run = 0; run < RUNS; run++) {
            new ModelTest(run, answers).run();
        }
        answers.end();
    }

    private void run() {
        for (int k = 0; k < 4; k++) {
            make();
        }
        while (calls < CALLS) {
            if (calls < CALLS / 2) {
                change();
            } else if (random.nextInt(8) == 0) {
                change();
            } else {
                look();
            }
        }
    }

    private void due(String call, int got, int want) {
        calls++;
        answers.due("call " + calls + ", " + call, got, want);
    }

    private boolean rarely() {
        return random.nextInt(60) == 0;
    }

    private int any() {
        int[] odd = {Integer.MIN_VALUE, Integer.MAX_VALUE, -1, 64, 65, 255, 256, 0};
        int pick = random.nextInt(10);
        return pick < odd.length ? odd[pick] : random.nextInt();
    }

    private int surface() {
        return rarely() ? any() : random.nextInt(4 + random.nextInt(2));
    }

    private int sprite() {
        return rarely() ? any() : random.nextInt(4);
    }

    private int side() {
        if (rarely()) return any();
        return random.nextInt(3) == 0 ? random.nextInt(65) : random.nextInt(12);
    }

    private int place() {
        if (rarely()) return any();
        int span = random.nextInt(3) == 0 ? 64 : 8;
        return random.nextInt(span + 8) - 6;
    }

    private int number(int surface) {
        if (rarely()) return any();
        int depth = Math.max(1, model.told(surface, 0));
        return random.nextInt(3) == 0 ? random.nextInt(1 << depth) : random.nextInt(Math.min(4, 1 << depth));
    }

    private void make() {
        int depth = rarely() ? any() : DEPTHS[random.nextInt(3)];
        int wide = rarely() ? any() : 1 + random.nextInt(large ? 64 : 12);
        int high = rarely() ? any() : 1 + random.nextInt(large ? 64 : 8);
        due("make " + depth + ", " + wide + ", " + high, board.make(depth, wide, high), model.make(depth, wide, high));
    }

    private void change() {
        switch (random.nextInt(16)) {
            case 0: make(); break;
            case 1: clip(); break;
            case 2: case 3: set(); break;
            case 4: case 5: fill(); break;
            case 6: case 7: case 8: move(random.nextInt(4)); break;
            case 9: case 10: move(random.nextInt(2)); break;
            case 11: turn(); break;
            case 12: tell(); break;
            case 13: load(); break;
            case 14: forget(); break;
            default: draw(); break;
        }
    }

    private void look() {
        switch (random.nextInt(6)) {
            case 0: told(); break;
            case 1: count(); break;
            case 2: part(); break;
            case 3: due("check", board.check(), 1); break;
            default: get(); break;
        }
    }

    private void clip() {
        int s = surface(), x = place(), y = place(), w = side(), h = side();
        due("clip " + s + ", " + x + ", " + y + ", " + w + ", " + h, board.clip(s, x, y, w, h), model.clip(s, x, y, w, h));
    }

    private void set() {
        int s = surface(), x = place(), y = place(), v = number(s);
        due("set " + s + ", " + x + ", " + y + ", " + v, board.set(s, x, y, v), model.set(s, x, y, v));
    }

    private void get() {
        int s = surface(), x = place(), y = place();
        due("get " + s + ", " + x + ", " + y, board.get(s, x, y), model.get(s, x, y));
    }

    private void told() {
        int s = surface(), what = rarely() ? any() : random.nextInt(8);
        due("told " + s + ", " + what, board.told(s, what), model.told(s, what));
    }

    private void fill() {
        int s = surface(), x = place(), y = place(), w = side(), h = side(), v = number(s);
        int operation = rarely() ? any() : random.nextInt(16);
        due("fill " + s + ", " + x + ", " + y + ", " + w + ", " + h + ", " + v + ", " + operation,
            board.fill(s, x, y, w, h, v, operation), model.fill(s, x, y, w, h, v, operation));
    }

    /** Most pairs of surfaces that are picked have the depths that the call asks for. */
    private void move(int kind) {
        int from = surface(), to = surface();
        for (int k = 0; k < 6 && !suits(kind, from, to); k++) {
            from = surface();
            to = random.nextInt(4) == 0 ? from : surface();
        }
        int x = place(), y = place(), w = side(), h = side(), u = place(), v = place();
        int[] r = {x, y, w, h, u, v};
        String call = from + ", " + x + ", " + y + ", " + w + ", " + h + ", " + to + ", " + u + ", " + v + ", ";
        int last = kind == 0 ? random.nextInt(16) : kind == 2 ? mask() : number(to);
        int one = number(to);
        switch (kind) {
            case 0:
                due("copy " + call + last, board.copy(from, x, y, w, h, to, u, v, last), model.copy(from, r, to, last));
                break;
            case 1:
                due("keyed " + call + last, board.keyed(from, x, y, w, h, to, u, v, last), model.keyed(from, r, to, last));
                break;
            case 2:
                due("masked " + call + last, board.masked(from, x, y, w, h, to, u, v, last), model.masked(from, r, to, last));
                break;
            default:
                due("spread " + call + last + ", " + one,
                    board.spread(from, x, y, w, h, to, u, v, last, one), model.spread(from, r, to, last, one));
                break;
        }
    }

    private boolean suits(int kind, int from, int to) {
        int depth = model.told(from, 0);
        return kind == 3 ? depth == 1 : depth == model.told(to, 0);
    }

    private int mask() {
        int mask = surface();
        for (int k = 0; k < 6 && model.told(mask, 0) != 1; k++) {
            mask = surface();
        }
        return mask;
    }

    private void turn() {
        int s = surface(), way = rarely() ? any() : random.nextInt(2);
        due("turn " + s + ", " + way, board.turn(s, way), model.turn(s, way));
    }

    private void count() {
        int s = surface(), v = number(s);
        due("count " + s + ", " + v, board.count(s, v), model.count(s, v));
    }

    private void tell() {
        int k = sprite(), s = surface(), key = number(s);
        due("tell " + k + ", " + s + ", " + key, board.tell(k, s, key), model.tell(k, s, key));
        for (int look = 0; look < 3 && calls < CALLS; look++) {
            part();
        }
    }

    /** Half of the bytes make a row that can stand. */
    private void load() {
        int k = sprite();
        long bytes = random.nextLong();
        int n = rarely() ? any() : 1 + random.nextInt(8);
        if (random.nextBoolean()) {
            long[] rows = {0x0141018301000000L, 0x4203018503024101L, 0x8201000144010101L, 0x0000034101000000L, 0x3f41010000bf0100L};
            bytes = rows[random.nextInt(rows.length)] >>> (8 * random.nextInt(3));
            n = 8;
        }
        due("load " + k + ", " + bytes + ", " + n, board.load(k, bytes, n), model.load(k, bytes, n));
    }

    private void forget() {
        int k = sprite();
        due("forget " + k, board.forget(k), model.forget(k));
    }

    private void part() {
        int k = sprite();
        int place = rarely() ? any() : random.nextInt(random.nextInt(4) == 0 ? 400 : 12);
        due("part " + k + ", " + place, board.part(k, place), model.part(k, place));
    }

    private void draw() {
        int k = sprite(), s = surface(), x = place(), y = place();
        due("draw " + k + ", " + s + ", " + x + ", " + y, board.draw(k, s, x, y), model.draw(k, s, x, y));
    }
}
