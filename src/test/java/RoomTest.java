import com.sun.management.ThreadMXBean;
import java.lang.management.ManagementFactory;

/**
 * What an object makes in its 512 calls stays small, whichever call it is: no object takes fewer than 16 bytes and
 * no element fewer than 4 here, so that a bound on bytes is one on both.
 */
public final class RoomTest {
    private static final int MOST_BYTES = 1_000_000;
    private static final ThreadMXBean THREADS = (ThreadMXBean) ManagementFactory.getThreadMXBean();

    public static void main(String[] args) {
        Answers answers = new Answers();
        Twins.Call[] calls = {
            board -> board.clip(0, 1, 1, 64, 64), board -> board.set(0, 2, 2, 1), board -> board.get(0, 1, 1),
            board -> board.told(0, 5), board -> board.fill(0, 0, 0, 64, 64, 1, 6),
            board -> board.copy(0, 0, 0, 64, 64, 1, 0, 0, 7), board -> board.keyed(0, 0, 0, 64, 64, 1, 0, 0, 0),
            board -> board.masked(0, 0, 0, 64, 64, 1, 0, 0, 2), board -> board.spread(2, 0, 0, 64, 64, 1, 0, 0, 1, 0),
            board -> board.turn(0, 0), board -> board.count(0, 1), board -> board.tell(1, 0, 0),
            board -> board.load(0, 0x0102030405060708L, 8), board -> board.forget(0), board -> board.part(0, 1),
            board -> board.draw(1, 0, 0, 0), BlitBoard::check, board -> board.make(9, 64, 64)};
        for (int k = 0; k < calls.length; k++) {
            long bytes = bytesOf(calls[k]);
            answers.due("call " + k + " makes " + bytes + " bytes", bytes <= MOST_BYTES ? 1 : 0, 1);
        }
        answers.end();
    }

    private static long bytesOf(Twins.Call call) {
        long thread = Thread.currentThread().getId();
        long before = THREADS.getThreadAllocatedBytes(thread);
        BlitBoard board = new BlitBoard();
        for (int k = 0; k < 8; k++) {
            board.make(1, 64, 64);
        }
        board.set(0, 63, 63, 1);
        board.tell(1, 0, 7);
        for (int k = 0; k < 502; k++) {
            call.on(board);
        }
        return THREADS.getThreadAllocatedBytes(thread) - before;
    }
}
