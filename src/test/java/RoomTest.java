import com.sun.management.ThreadMXBean;
import java.lang.management.ManagementFactory;

/** What a run of calls makes stays well below the room that it has. */
public final class RoomTest {
    private static final Check CHECK = new Check();
    private static final ThreadMXBean THREADS = (ThreadMXBean) ManagementFactory.getThreadMXBean();

    /** Half of 7.3 million fields and elements, of eight bytes at most. */
    private static final long MOST = 3_650_000L * 8;

    public static void main(String[] args) {
        small("copies", RoomTest::copies);
        small("melding", RoomTest::melding);
        CHECK.end();
    }

    private static void small(String what, Runnable run) {
        long before = THREADS.getCurrentThreadAllocatedBytes();
        run.run();
        long made = THREADS.getCurrentThreadAllocatedBytes() - before;
        CHECK.due(what + " made " + made + " bytes: few enough", "true", Boolean.toString(made < MOST));
    }

    private static void copies() {
        PieceTexts x = Make.single(512);
        for (int i = 0; i < 240; i++) {
            x.copy(0, 0, 512, 1);
            x.wipe(1);
        }
    }

    /** Copies of 448 pieces that one call makes 8 of. */
    private static void melding() {
        PieceTexts x = Make.written("abcdefgh", "abcdefgh", "abcdefgh", "abcdefgh", "abcdefgh", "abcdefgh", "abcdefgh");
        x.put(0, 0, 0, 56, 0);
        for (int place = 1; place < 56; place += 2) {
            x.tag(0, place, 1, -1, 1);
        }
        Make.grow(x, 448);
        for (int i = 0; i < 140; i++) {
            x.copy(0, 0, 448, 1);
            CHECK.due("tag that melds", 8, () -> x.tag(1, 0, 448, -1, 0));
            x.wipe(1);
        }
    }
}
