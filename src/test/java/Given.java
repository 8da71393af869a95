/** Objects that tests start from. */
final class Given {
    static final long NULL = Long.MIN_VALUE;
    static final int CODE = 7;

    private Given() {
    }

    /** One source: a table of pairs; expressions 0 and 1 are its columns. */
    static QueryRunner pairs(long... values) {
        QueryRunner x = new QueryRunner();
        x.table(2);
        for (int i = 0; i + 1 < values.length; i += 2) {
            int nulls = (values[i] == NULL ? 1 : 0) + (values[i + 1] == NULL ? 2 : 0);
            x.insert(0, values[i], values[i + 1], 0, 0, nulls);
        }
        x.source(0, 0, -1);
        x.column(0, 0);
        x.column(0, 1);
        return x;
    }

    /** Three sources of eight rows each; expressions 0 to 2 are their columns, CODE numbers all 512 rows from 0. */
    static QueryRunner manyRows() {
        QueryRunner x = new QueryRunner();
        x.table(1);
        for (int i = 0; i < 8; i++) {
            x.insert(0, i, 0, 0, 0, 0);
        }
        for (int i = 0; i < 3; i++) {
            x.source(0, 0, -1);
            x.column(i, 0);
        }
        int eight = x.constant(8, false);
        x.op(0, x.op(2, x.op(0, x.op(2, 0, eight), 1), eight), 2);
        return x;
    }
}
