import java.lang.management.ManagementFactory;

/** All calls of one run live in one room: an object is small, and calls make next to nothing. */
public final class RoomTest {
    private static final long BYTES_AN_OBJECT = 20_000;
    private static final long BYTES_A_RUN = 200_000;

    private RoomTest() {
    }

    public static void main(String[] args) {
        com.sun.management.ThreadMXBean threads =
            (com.sun.management.ThreadMXBean) ManagementFactory.getThreadMXBean();
        long thread = Thread.currentThread().getId();
        // The first run loads classes, which takes room of its own.
        runOf512(new GridColours());

        long start = threads.getThreadAllocatedBytes(thread);
        GridColours x = new GridColours();
        long made = threads.getThreadAllocatedBytes(thread);
        runOf512(x);
        long ran = threads.getThreadAllocatedBytes(thread);

        System.out.println("an object: " + (made - start) + " bytes, 512 calls: " + (ran - made) + " bytes");
        Check.due("an object is small", made - start <= BYTES_AN_OBJECT, true);
        Check.due("calls make next to nothing", ran - made <= BYTES_A_RUN, true);
        Check.finish();
    }

    /** The dearest calls, on grids that change. */
    private static void runOf512(GridColours x) {
        // "grid 4 4 4;"
        x.feed(0x67726964, 0x20342034, 0x20343b00, 0, 0);
        x.end(11);
        x.text();
        for (int i = 0; i < 50; i++) {
            x.paint(i % 16, 1 + i % 4);
            x.likes();
            x.search(0);
            Check.mend(x);
            x.turn();
            x.drawn(60, i);
            x.undo();
            x.rectangle(i, 3);
            x.image(i % 2);
            x.restore(i % 2);
        }
    }
}
