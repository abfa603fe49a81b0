import java.lang.management.ManagementFactory;

/** All calls of a run live in one room: an object makes its rows once, and its calls make nothing. */
public final class RoomTest {
    private static final long MOST_BYTES = 200_000;

    public static void main(String[] args) {
        com.sun.management.ThreadMXBean threads =
            (com.sun.management.ThreadMXBean) ManagementFactory.getThreadMXBean();
        long id = Thread.currentThread().getId();
        dearest(new LeanedOut());
        long ahead = threads.getThreadAllocatedBytes(id);
        dearest(new LeanedOut());
        long made = threads.getThreadAllocatedBytes(id) - ahead;
        if (made > MOST_BYTES) Checks.fail("a run makes " + made + " bytes");
        Checks.due("a run", 0, 0);
        Checks.end("RoomTest");
    }

    private static void dearest(LeanedOut x) {
        for (int p = 0; p < 6; p++) x.person(10 * p + p, 100 * p + 19 - p);
        x.film(0, 1, 20);
        x.image();
        for (int i = 0; i < 40; i++) {
            for (int n = 0; n < 5; n++) x.feed(5, 'l', 'e', 'a', 'n', 's');
            x.text();
            x.safe(0, 0);
            x.untangle(0, 0);
            x.leans(0, 1, 0);
            x.odds(i, 40, 2, 0);
            x.windows(0, 1, 1);
            x.laws(0, 1);
        }
    }
}
