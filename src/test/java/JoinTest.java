/** Promise 15: sources, in which order their rows and ONs come, WHERE. */
public final class JoinTest {
    private static final Due due = new Due("JoinTest");
    private static final long NULL = Long.MIN_VALUE;

    public static void main(String[] args) {
        each();
        matching();
        left();
        leftOfLeft();
        matchingOfLeft();
        emptyTables();
        sameTableTwice();
        onComesRowByRow();
        whereComesBeforeTheNextOn();
        itemsComeBeforeTheNextOn();
        onOfNullRowIsNotWorkedOut();
        due.end();
    }

    private static QueryRunner withTables(long[]... tables) {
        QueryRunner x = new QueryRunner();
        for (int t = 0; t < tables.length; t++) {
            x.table(1);
            for (long value : tables[t]) {
                x.insert(t, value, 0, 0, 0, value == NULL ? 1 : 0);
            }
        }
        for (int source = 0; source < 3; source++) {
            x.column(source, 0);
        }
        return x;
    }

    private static long[] rows(long... values) {
        return values;
    }

    private static void each() {
        QueryRunner x = withTables(rows(1, 2), rows(3, 4, 5));
        x.source(0, 0, -1);
        x.source(1, 0, -1);
        x.item(0);
        x.item(1);
        due.answers("each with each", x, "1 3", "1 4", "1 5", "2 3", "2 4", "2 5");
        x.source(0, 0, -1);
        x.item(2);
        due.answers("three", x, "1 3 1", "1 3 2", "1 4 1", "1 4 2", "1 5 1", "1 5 2",
                "2 3 1", "2 3 2", "2 4 1", "2 4 2", "2 5 1", "2 5 2");
    }

    private static void matching() {
        QueryRunner x = withTables(rows(1, 2, NULL, 2), rows(2, NULL, 1, 2));
        x.source(0, 0, -1);
        x.source(1, 1, x.op(5, 0, 1));
        x.item(0);
        x.item(1);
        due.answers("those for which ON is TRUE", x, "1 1", "2 2", "2 2", "2 2", "2 2");
    }

    private static void left() {
        QueryRunner x = withTables(rows(1, 2, NULL), rows(2, NULL, 2));
        x.source(0, 0, -1);
        x.source(1, 2, x.op(5, 0, 1));
        x.item(0);
        x.item(1);
        due.answers("NULLs when there is none", x, "1 -", "2 2", "2 2", "- -");
        x.condition(0, x.op(12, 1, 0));
        due.answers("WHERE behind the join", x, "1 -", "- -");
    }

    private static void leftOfLeft() {
        QueryRunner x = withTables(rows(1, 2), rows(2), rows(7, 8));
        x.source(0, 0, -1);
        x.source(1, 2, x.op(5, 0, 1));
        x.source(2, 2, x.op(11, x.op(12, 1, 0), 0));
        x.item(0);
        x.item(1);
        x.item(2);
        due.answers("an ON sees the row of NULLs", x, "1 - -", "2 2 7", "2 2 8");
    }

    private static void matchingOfLeft() {
        QueryRunner x = withTables(rows(1, 2), rows(2), rows(7, 8));
        x.source(0, 0, -1);
        x.source(1, 2, x.op(5, 0, 1));
        x.source(2, 1, x.op(12, 1, 0));
        x.item(0);
        x.item(1);
        x.item(2);
        due.answers("a matching one behind NULLs", x, "1 - 7", "1 - 8");
    }

    private static void emptyTables() {
        QueryRunner x = withTables(rows(1, 2), rows());
        x.source(0, 0, -1);
        int always = x.op(5, 0, 0);
        x.source(1, 2, always);
        x.item(0);
        x.item(1);
        due.answers("empty on the right", x, "1 -", "2 -");
        QueryRunner y = withTables(rows(1, 2), rows());
        y.source(1, 0, -1);
        y.source(0, 2, y.op(12, 0, 0));
        y.item(1);
        due.answers("empty on the left", y);
        QueryRunner z = withTables(rows(1, 2), rows());
        z.source(0, 0, -1);
        z.source(1, 0, -1);
        z.item(0);
        due.answers("empty with how 0", z);
    }

    private static void sameTableTwice() {
        QueryRunner x = withTables(rows(1, 2, 3));
        x.source(0, 0, -1);
        x.source(0, 1, x.op(7, 0, 1));
        x.item(0);
        x.item(1);
        due.answers("pairs", x, "1 2", "1 3", "2 3");
        x.insert(0, 0, 0, 0, 0, 0);
        due.answers("a row that came behind source()", x, "1 2", "1 3", "2 3", "0 1", "0 2", "0 3");
    }

    // A fault in a later ON and one in an earlier row's items: the first ends the run.
    private static void onComesRowByRow() {
        QueryRunner x = withTables(rows(1, 0), rows(1, 0));
        int on = x.op(5, x.op(3, 0, 1), x.constant(1, false));
        x.source(0, 0, -1);
        x.source(1, 1, on);
        x.item(x.op(2, x.constant(1000000000000L, false), x.op(2, 0, x.constant(1001, false))));
        due.ends("the first row's items are first", x, -21);
        QueryRunner y = withTables(rows(1, 0), rows(0, 1));
        y.source(0, 0, -1);
        y.source(1, 1, y.op(5, y.op(3, 0, 1), y.constant(1, false)));
        y.item(y.op(2, y.constant(1000000000000L, false), y.op(2, 0, y.constant(1001, false))));
        due.ends("the first row's ON is first", y, -20);
    }

    private static void whereComesBeforeTheNextOn() {
        QueryRunner x = withTables(rows(1), rows(1, 0));
        int huge = x.op(2, x.constant(1000000000000L, false), x.constant(1001, false));
        x.source(0, 0, -1);
        x.source(1, 1, x.op(5, x.op(3, 0, 1), 0));
        x.item(0);
        x.condition(0, x.op(5, huge, huge));
        due.ends("WHERE of the first is before the ON of the second", x, -21);
    }

    private static void itemsComeBeforeTheNextOn() {
        QueryRunner x = withTables(rows(1), rows(1, 0));
        int huge = x.op(2, x.constant(1000000000000L, false), x.constant(1001, false));
        x.source(0, 0, -1);
        x.source(1, 1, x.op(5, x.op(3, 0, 1), 0));
        x.item(0);
        x.item(huge);
        due.ends("items of the first are before the ON of the second", x, -21);
        x.fresh();
        x.column(0, 0);
        x.column(1, 0);
        x.constant(0, false);
        x.source(0, 0, -1);
        x.source(1, 1, x.op(5, x.op(3, 0, 1), 0));
        x.item(0);
        x.condition(0, x.op(6, 0, 0));
        due.ends("the second ON is worked out all the same", x, -20);
    }

    private static void onOfNullRowIsNotWorkedOut() {
        QueryRunner x = withTables(rows(5), rows(5));
        // FALSE for the row that there is; it would go wrong for a row of NULLs.
        int zero = x.constant(0, false);
        int divided = x.op(5, x.op(3, 0, zero), zero);
        int on = x.op(10, x.op(9, x.op(12, 1, 0), divided), x.op(6, 1, 1));
        x.source(0, 0, -1);
        x.source(1, 2, on);
        x.item(0);
        x.item(1);
        due.answers("no ON for its own row of NULLs", x, "5 -");
    }
}
