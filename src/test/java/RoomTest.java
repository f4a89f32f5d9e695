import com.sun.management.ThreadMXBean;
import java.lang.management.ManagementFactory;

/** All calls of a run live in one room of some 600,000 objects. */
public final class RoomTest {
    private static final int CALLS = 512;

    /** No object takes less than 16 bytes, so there are fewer than 600,000 objects in these. */
    private static final long ROOM_BYTES = 600_000L * 16;

    private static final String[] LINES = {"i:1", "r:1 2 3 4", "s:hello world", "f:me", "m:x", "", "-x", "e:h", "",
        "6162636465", "-x", "m:y", "", "-y", "", "a b c d e f", "-y.", "-x."};

    public static void main(String[] args) {
        ThreadMXBean threads = (ThreadMXBean) ManagementFactory.getThreadMXBean();
        long self = Thread.currentThread().getId();
        useUp(new ThreadedArchive());
        long before = threads.getThreadAllocatedBytes(self);
        useUp(new ThreadedArchive());
        long used = threads.getThreadAllocatedBytes(self) - before;
        Check.due("an object and its calls took " + used + " bytes", used <= ROOM_BYTES);
        Check.end();
    }

    private static void useUp(ThreadedArchive x) {
        for (int call = 0; call < CALLS; call += 130) {
            for (int i = 0; i < LINES.length; i++) {
                Check.line(x, LINES[i]);
            }
            x.add();
            Check.search(x, "(s:he*|!b:a)&t:3|f:me");
            x.related(0);
            x.answers(0);
            x.count(4);
            x.count(5);
            x.drop(0);
        }
    }
}
