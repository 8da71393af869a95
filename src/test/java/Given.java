/** Objects that tests start from, and expressions that they need again and again. */
final class Given {
    static final long NULL = Long.MIN_VALUE;
    static final long MOST_VALUE = 1000000000000L;
    static final long MOST_RESULT = 1000000000000000L;
    static final int CODE = 7;

    private Given() {
    }

    /** One source: a table of one column; expression 0 is the column. */
    static QueryRunner numbers(long... values) {
        QueryRunner x = new QueryRunner();
        fill(x, x.table(1), values);
        x.source(0, 0, -1);
        x.column(0, 0);
        return x;
    }

    /** Tables of one column; expressions 0 to 2 are the first columns of the three sources. */
    static QueryRunner tables(long[]... tables) {
        QueryRunner x = new QueryRunner();
        for (long[] values : tables) {
            fill(x, x.table(1), values);
        }
        for (int source = 0; source < 3; source++) {
            x.column(source, 0);
        }
        return x;
    }

    private static void fill(QueryRunner x, int table, long... values) {
        for (long value : values) {
            x.insert(table, value, 0, 0, 0, value == NULL ? 1 : 0);
        }
    }

    static long[] rows(long... values) {
        return values;
    }

    /** One source: a table of pairs; expressions 0 and 1 are its columns. */
    static QueryRunner pairs(long... values) {
        QueryRunner x = new QueryRunner();
        x.table(2);
        for (int i = 0; i + 1 < values.length; i += 2) {
            int nulls = (values[i] == NULL ? 1 : 0) + (values[i + 1] == NULL ? 2 : 0);
            x.insert(0, values[i], values[i + 1], 0, 0, nulls);
        }
        x.source(0, 0, -1);
        x.column(0, 0);
        x.column(0, 1);
        return x;
    }

    /** Three sources of eight rows each; expressions 0 to 2 are their columns, CODE numbers all 512 rows from 0. */
    static QueryRunner manyRows() {
        QueryRunner x = new QueryRunner();
        x.table(1);
        for (int i = 0; i < 8; i++) {
            x.insert(0, i, 0, 0, 0, 0);
        }
        for (int i = 0; i < 3; i++) {
            x.source(0, 0, -1);
            x.column(i, 0);
        }
        int eight = x.constant(8, false);
        x.op(0, x.op(2, x.op(0, x.op(2, 0, eight), 1), eight), 2);
        return x;
    }

    /** A value from -10^15 to 10^15, put together of constants. */
    static int big(QueryRunner x, long v) {
        if (v == NULL) {
            return x.constant(0, true);
        }
        if (v >= -MOST_VALUE && v <= MOST_VALUE) {
            return x.constant(v, false);
        }
        int product = x.op(2, x.constant(v / 1000, false), x.constant(1000, false));
        return v % 1000 == 0 ? product : x.op(0, product, x.constant(v % 1000, false));
    }

    /** A value that goes wrong with -20 when it is worked out. */
    static int divided(QueryRunner x) {
        return x.op(3, x.constant(1, false), x.constant(0, false));
    }

    /** A value that goes wrong with -21 when it is worked out. */
    static int huge(QueryRunner x) {
        return x.op(2, x.constant(MOST_VALUE, false), x.constant(1001, false));
    }

    /** A truth that goes wrong with what the value does. */
    static int asTruth(QueryRunner x, int value) {
        return x.op(11, x.op(12, value, 0), 0);
    }

    static int never(QueryRunner x) {
        return x.op(6, x.constant(0, false), x.constant(0, false));
    }

    static int always(QueryRunner x) {
        return x.op(5, x.constant(0, false), x.constant(0, false));
    }
}
