import java.lang.management.ManagementFactory;

/** All calls of a run share one room: what is made must stay small, however often a query is run. */
public final class RoomTest {
    private static final Due due = new Due("RoomTest");
    // A new object with its first grouped run, told in bytes: some 20,000 fields and elements.
    private static final long MOST_BYTES = 140000;

    public static void main(String[] args) {
        // The first time some classes of the machine are made, too.
        bytesOfRuns();
        long bytes = bytesOfRuns();
        System.out.println("RoomTest: " + bytes + " bytes for an object, 40 inserts and 360 runs");
        due.is("not more than " + MOST_BYTES + " bytes", bytes <= MOST_BYTES, true);
        due.end();
    }

    private static long bytesOfRuns() {
        com.sun.management.ThreadMXBean threads =
                (com.sun.management.ThreadMXBean) ManagementFactory.getThreadMXBean();
        long me = Thread.currentThread().getId();
        long before = threads.getThreadAllocatedBytes(me);
        QueryRunner x = new QueryRunner();
        for (int t = 0; t < 5; t++) {
            x.table(4);
            for (int i = 0; i < 8; i++) {
                x.insert(t, i, -i, i % 3, 7, 0);
            }
        }
        int rows = 0;
        for (int i = 0; i < 360; i++) {
            if (i % 60 == 0) {
                plan(x, i % 120 == 0);
            }
            rows += x.run();
        }
        long bytes = threads.getThreadAllocatedBytes(me) - before;
        due.is("rows of all answers", rows, 3 * 60 * (8 + 64));
        return bytes;
    }

    private static void plan(QueryRunner x, boolean isGrouped) {
        x.fresh();
        x.source(0, 0, -1);
        x.source(1, 0, -1);
        int a = x.column(0, 0);
        x.item(a);
        x.order(0, true);
        if (isGrouped) {
            x.source(2, 0, -1);
            x.group(a);
            x.item(x.aggregate(2, x.column(2, 2), true));
        }
    }
}
