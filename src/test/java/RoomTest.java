import com.sun.management.ThreadMXBean;
import java.lang.management.ManagementFactory;

/** All calls of a run live in one room, so an object's calls make nothing: what it needs is made with it. */
public final class RoomTest {
    private static final int CALLS = 512;

    /** Far below the room's 7.3 million fields and elements, and far above what a new object takes. */
    private static final long MOST_BYTES_OF_AN_OBJECT = 40_000;

    /** What the counting itself takes. */
    private static final long MOST_BYTES_OF_CALLS = 2_000;

    private static final String[] LINES = {"i:1", "r:1 2 3 4", "s:hello world", "f:me", "m:x", "", "-x", "e:h", "",
        "6162636465", "-x", "m:y", "", "-y", "", "a b c d e f", "-y.", "-x."};

    public static void main(String[] args) {
        ThreadMXBean threads = (ThreadMXBean) ManagementFactory.getThreadMXBean();
        long self = Thread.currentThread().getId();
        useUp(new ThreadedArchive());
        threads.getThreadAllocatedBytes(self);
        long before = threads.getThreadAllocatedBytes(self);
        ThreadedArchive x = new ThreadedArchive();
        long made = threads.getThreadAllocatedBytes(self);
        useUp(x);
        long used = threads.getThreadAllocatedBytes(self);
        Check.due("a new object took " + (made - before) + " bytes", made - before <= MOST_BYTES_OF_AN_OBJECT);
        Check.due("its calls took " + (used - made) + " bytes", used - made <= MOST_BYTES_OF_CALLS);
        Check.end();
    }

    private static void useUp(ThreadedArchive x) {
        for (int call = 0; call < CALLS; call += 130) {
            for (int i = 0; i < LINES.length; i++) {
                Check.line(x, LINES[i]);
            }
            x.add();
            Check.search(x, "(s:he*|!b:a)&t:3|f:me");
            x.related(0);
            x.answers(0);
            x.count(4);
            x.count(5);
            x.drop(0);
        }
    }
}
