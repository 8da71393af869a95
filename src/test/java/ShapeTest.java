/** Promises 13 to 15: what is the same left out, orders, skipped and kept rows. */
public final class ShapeTest {
    private static final Due due = new Due("ShapeTest");
    private static final long NULL = Given.NULL;

    public static void main(String[] args) {
        leftOut();
        ordered();
        evenStays();
        severalOrders();
        skippedAndKept();
        allTogether();
        ordersOfGroups();
        due.end();
    }

    private static QueryRunner pairs(long... values) {
        QueryRunner x = Given.pairs(values);
        x.item(0);
        x.item(1);
        return x;
    }

    private static void leftOut() {
        QueryRunner x = pairs(1, 2, NULL, 0, 1, 2, 0, NULL, NULL, 0, 2, 1, NULL, NULL, 0, 0);
        due.answers("all", x, "1 2", "- 0", "1 2", "0 -", "- 0", "2 1", "- -", "0 0");
        x.shape(true, 1000, 0);
        due.answers("the same left out", x, "1 2", "- 0", "0 -", "2 1", "- -", "0 0");
        x.shape(false, 1000, 0);
        due.is("all again", x.run(), 8);
    }

    private static void ordered() {
        QueryRunner x = pairs(3, 1, NULL, 2, -5, 3, 1000000000000L, 4, 0, 5);
        x.order(0, false);
        due.answers("up, NULL before numbers", x, "- 2", "-5 3", "0 5", "3 1", "1000000000000 4");
        QueryRunner y = pairs(3, 1, NULL, 2, -5, 3, 1000000000000L, 4, 0, 5);
        y.order(0, true);
        due.answers("down, NULL behind", y, "1000000000000 4", "3 1", "0 5", "-5 3", "- 2");
    }

    private static void evenStays() {
        for (boolean down : new boolean[] {false, true}) {
            QueryRunner x = pairs(1, 8, NULL, 7, 1, 6, NULL, 5, 1, 4, NULL, 3);
            x.order(0, down);
            if (down) {
                due.answers("down", x, "1 8", "1 6", "1 4", "- 7", "- 5", "- 3");
            } else {
                due.answers("up", x, "- 7", "- 5", "- 3", "1 8", "1 6", "1 4");
            }
        }
    }

    private static void severalOrders() {
        QueryRunner x = pairs(1, 1, 2, 2, 1, 3, 2, NULL, 1, NULL, 2, 3);
        x.order(0, true);
        x.order(1, false);
        due.answers("the first first", x, "2 -", "2 2", "2 3", "1 -", "1 1", "1 3");
        x.order(1, true);
        due.answers("the same item again", x, "2 -", "2 2", "2 3", "1 -", "1 1", "1 3");
        QueryRunner y = pairs(1, 1, 2, 2, 1, 3, 2, NULL, 1, NULL, 2, 3);
        y.order(1, true);
        y.order(0, true);
        due.answers("another way round", y, "2 3", "1 3", "2 2", "1 1", "2 -", "1 -");
    }

    private static void skippedAndKept() {
        QueryRunner x = pairs(1, 0, 2, 0, 3, 0, 4, 0, 5, 0);
        x.shape(false, 2, 1);
        due.answers("one skipped, two kept", x, "2 0", "3 0");
        due.is("behind the last", x.cell(2, 0), 0);
        x.shape(false, 2, 4);
        due.answers("four skipped, one left", x, "5 0");
        x.shape(false, 2, 5);
        due.answers("all skipped", x);
        x.shape(false, 2, 6);
        due.answers("more than all skipped", x);
        due.is("still two items", x.answer(1), 2);
        x.shape(false, 0, 0);
        due.answers("none kept", x);
        x.shape(false, 5, 0);
        due.is("just all kept", x.run(), 5);
        x.shape(false, 1000, 1000);
        due.is("the most of both", x.run(), 0);
    }

    private static void allTogether() {
        QueryRunner x = pairs(2, 0, 1, 0, 2, 0, 3, 0, 1, 0, NULL, 0);
        x.shape(true, 2, 1);
        x.order(0, true);
        due.answers("left out, then ordered, then skipped and kept", x, "2 0", "1 0");
    }

    private static void ordersOfGroups() {
        QueryRunner x = new QueryRunner();
        x.table(2);
        long[] keys = {1, 2, 1, 3, 2, 1};
        for (int i = 0; i < keys.length; i++) {
            x.insert(0, keys[i], i, 0, 0, 0);
        }
        x.source(0, 0, -1);
        x.group(x.column(0, 0));
        x.item(x.aggregate(0, 0, false));
        x.order(0, false);
        due.answers("groups ordered", x, "1", "2", "3");
        x.item(0);
        x.order(1, true);
        x.shape(false, 2, 0);
        due.answers("groups ordered and kept", x, "1 3", "2 2");
    }
}
