/** Promises 1 to 3, TABLES: a test for each sentence that names an edge. */
public final class TablesEdgesTest {
    private static final long MOST = Given.MOST_VALUE;
    private static final int UNKNOWN = QueryRunner.UNKNOWN;
    private static final int OUTSIDE = QueryRunner.OUTSIDE;
    private static final int ROOM = QueryRunner.ROOM;
    private static final Due due = new Due("TablesEdgesTest");

    public static void main(String[] args) {
        noTables();
        emptyQuery();
        emptyShape();
        noAnswer();
        objectsApart();
        sixTables();
        fourColumns();
        eightRows();
        valuesWithin();
        nullsOfAnyNumber();
        nullBits();
        columnsThatItHasNot();
        bitsThatItHasNot();
        noSuchTable();
        due.end();
    }

    private static int insert(QueryRunner x, int table, long value) {
        return x.insert(table, value, value, value, value, 0);
    }

    // Each column of a table, in the order of its rows.
    private static void contents(String what, QueryRunner x, int table, int columns, String... rows) {
        x.fresh();
        x.source(table, 0, -1);
        for (int i = 0; i < columns; i++) {
            x.item(x.column(0, i));
        }
        due.answers(what, x, rows);
        x.item(x.column(0, Math.min(columns, 3)));
        due.is(what + ": a column more", x.run(), columns < 4 ? -11 : rows.length);
    }

    private static void noTables() {
        due.says("Promise 1: no tables");
        QueryRunner x = new QueryRunner();
        for (int table = -1; table <= 6; table++) {
            due.is("insert " + table, insert(x, table, 1), UNKNOWN);
            due.is("source " + table, x.source(table, 0, -1), UNKNOWN);
        }
        due.is("the first table", x.table(1), 0);
        due.is("its first row", insert(x, 0, 1), 1);
    }

    private static void emptyQuery() {
        due.says("Promise 1: an empty query");
        QueryRunner x = new QueryRunner();
        due.is("expressions", x.fresh(), 0);
        due.is("no expression for op", x.op(0, 0, 0), UNKNOWN);
        due.is("no expression for NOT", x.op(11, 0, 0), UNKNOWN);
        due.is("no expression for aggregate", x.aggregate(0, 0, false), UNKNOWN);
        due.is("no expression for condition", x.condition(0, 0), UNKNOWN);
        due.is("no expression for group", x.group(0), UNKNOWN);
        due.is("no expression for item", x.item(0), UNKNOWN);
        due.is("no item for order", x.order(0, false), UNKNOWN);
        due.is("run", x.run(), -1);
        x.table(1);
        due.is("no expression for ON", x.source(0, 1, 0), UNKNOWN);
        due.is("the first expression", x.column(0, 0), 0);
        due.is("no source yet", x.source(0, 2, x.op(12, 0, 0)), QueryRunner.STATE);
        due.is("the first source", x.source(0, 0, -1), 1);
        due.is("the first group", x.group(0), 1);
        due.is("the first item", x.item(0), 0);
        due.is("the first order", x.order(0, false), 1);
    }

    private static void emptyShape() {
        due.says("Promise 1: an empty query, its shape as at first");
        QueryRunner x = Given.manyRows();
        x.item(x.constant(5, false));
        x.condition(0, x.op(7, Given.CODE, x.constant(200, false)));
        due.is("200 rows that are the same", x.run(), 200);
        due.is("the first", x.cell(0, 0), 5);
        due.is("the last", x.cell(199, 0), 5);
        QueryRunner y = Given.numbers(3, 1, 2);
        y.item(0);
        due.answers("no condition, no order", y, "3", "1", "2");
    }

    private static void noAnswer() {
        due.says("A RUN: before any run there is no answer");
        QueryRunner x = new QueryRunner();
        due.hasNoAnswer("a new object", x);
        x = Given.numbers(1);
        x.item(0);
        due.hasNoAnswer("a query that has not been run", x);
        x.fresh();
        due.hasNoAnswer("behind fresh", x);
    }

    private static void objectsApart() {
        due.says("Promise 1: a new object beside another");
        QueryRunner x = Given.numbers(1);
        x.item(0);
        x.run();
        QueryRunner y = new QueryRunner();
        due.hasNoAnswer("another's answer", y);
        due.is("another's table", insert(y, 0, 1), UNKNOWN);
        due.is("another's expression", y.item(0), UNKNOWN);
        y.table(1);
        due.answers("the other one", x, "1");
    }

    private static void sixTables() {
        due.says("TABLES 0, 1, .. (6 at most)");
        QueryRunner x = new QueryRunner();
        for (int table = 0; table < 6; table++) {
            due.is("not there yet: " + table, insert(x, table, 1), UNKNOWN);
            due.is("table " + table, x.table(1), table);
            due.is("its first row", insert(x, table, 10 + table), 1);
        }
        due.is("a seventh", x.table(1), ROOM);
        due.is("a seventh, of four columns", x.table(4), ROOM);
        due.is("rows of the seventh", insert(x, 6, 1), UNKNOWN);
        due.is("the seventh as a source", x.source(6, 0, -1), UNKNOWN);
        for (int table = 0; table < 6; table++) {
            contents("table " + table, x, table, 1, "" + (10 + table));
        }
        due.is("fresh makes no room", x.table(1), ROOM);
    }

    private static void fourColumns() {
        due.says("TABLES have 1 .. 4 COLUMNS");
        QueryRunner x = new QueryRunner();
        due.is("0", x.table(0), OUTSIDE);
        due.is("-1", x.table(-1), OUTSIDE);
        due.is("5", x.table(5), OUTSIDE);
        due.is("the least int", x.table(Integer.MIN_VALUE), OUTSIDE);
        due.is("the greatest int", x.table(Integer.MAX_VALUE), OUTSIDE);
        String[] rows = {"1", "1 2", "1 2 3", "1 2 3 4"};
        for (int columns = 1; columns <= 4; columns++) {
            due.is(columns + " columns", x.table(columns), columns - 1);
            x.insert(columns - 1, 1, 2, 3, 4, 0);
            contents(columns + " columns", x, columns - 1, columns, rows[columns - 1]);
        }
    }

    private static void eightRows() {
        due.says("TABLES have up to 8 rows");
        QueryRunner x = new QueryRunner();
        x.table(1);
        x.table(1);
        contents("no row", x, 0, 1);
        for (int row = 1; row <= 8; row++) {
            due.is("row " + row, insert(x, 0, row), row);
        }
        due.is("a ninth", insert(x, 0, 9), ROOM);
        due.is("a ninth, of NULLs", x.insert(0, 0, 0, 0, 0, 15), ROOM);
        due.is("another table has room", insert(x, 1, 7), 1);
        contents("eight rows", x, 0, 1, "1", "2", "3", "4", "5", "6", "7", "8");
        contents("the other table", x, 1, 1, "7");
        due.is("fresh makes no room", insert(x, 0, 9), ROOM);
    }

    private static void valuesWithin() {
        due.says("VALUES are numbers (-10^12 .. 10^12)");
        long[] outside = {MOST + 1, -MOST - 1, Long.MAX_VALUE, Long.MIN_VALUE};
        for (int column = 0; column < 4; column++) {
            QueryRunner x = new QueryRunner();
            x.table(4);
            for (long value : outside) {
                long[] v = {1, 2, 3, 4};
                v[column] = value;
                due.is(value + " in column " + column, x.insert(0, v[0], v[1], v[2], v[3], 0), OUTSIDE);
            }
            long[] v = {1, 2, 3, 4};
            v[column] = MOST;
            due.is("10^12 in column " + column, x.insert(0, v[0], v[1], v[2], v[3], 0), 1);
            v[column] = -MOST;
            due.is("-10^12 in column " + column, x.insert(0, v[0], v[1], v[2], v[3], 0), 2);
            x.source(0, 0, -1);
            x.item(x.column(0, column));
            due.answers("column " + column, x, "" + MOST, "" + -MOST);
        }
    }

    private static void nullsOfAnyNumber() {
        due.says("Promise 3: OUTSIDE (a value that is not NULL)");
        long[] numbers = {MOST + 1, -MOST - 1, Long.MAX_VALUE, Long.MIN_VALUE};
        QueryRunner x = new QueryRunner();
        x.table(4);
        for (int column = 0; column < 4; column++) {
            long[] v = {1, 2, 3, 4};
            v[column] = numbers[column];
            due.is("NULL in column " + column, x.insert(0, v[0], v[1], v[2], v[3], 1 << column), column + 1);
            due.is("NULL in all others", x.insert(0, v[0], v[1], v[2], v[3], 15 - (1 << column)), OUTSIDE);
        }
        contents("nulls", x, 0, 4, "- 2 3 4", "1 - 3 4", "1 2 - 4", "1 2 3 -");
    }

    private static void nullBits() {
        due.says("Promise 3: bits of nulls tell which are NULL");
        QueryRunner x = new QueryRunner();
        x.table(4);
        x.table(4);
        String[] rows = new String[16];
        for (int nulls = 0; nulls < 16; nulls++) {
            due.is("bits " + nulls, x.insert(nulls / 8, 1, 2, 3, 4, nulls), nulls % 8 + 1);
            rows[nulls] = ((nulls & 1) != 0 ? "-" : "1") + ((nulls & 2) != 0 ? " -" : " 2")
                    + ((nulls & 4) != 0 ? " -" : " 3") + ((nulls & 8) != 0 ? " -" : " 4");
        }
        contents("bits 0 to 7", x, 0, 4, java.util.Arrays.copyOf(rows, 8));
        contents("bits 8 to 15", x, 1, 4, java.util.Arrays.copyOfRange(rows, 8, 16));
    }

    private static void columnsThatItHasNot() {
        due.says("Promise 3: what the table has not is not looked at");
        QueryRunner x = new QueryRunner();
        for (int columns = 1; columns <= 4; columns++) {
            x.table(columns);
            long b = columns > 1 ? 2 : MOST + 1;
            long c = columns > 2 ? 3 : Long.MIN_VALUE;
            long d = columns > 3 ? 4 : -MOST - 1;
            due.is(columns + " columns", x.insert(columns - 1, 1, b, c, d, 0), 1);
            due.is("the last that it has", x.insert(columns - 1, columns > 1 ? 1 : MOST + 1,
                    columns == 2 ? MOST + 1 : b, columns == 3 ? MOST + 1 : c, columns == 4 ? MOST + 1 : d, 0), OUTSIDE);
        }
        contents("one", x, 0, 1, "1");
        contents("two", x, 1, 2, "1 2");
        contents("three", x, 2, 3, "1 2 3");
        contents("four", x, 3, 4, "1 2 3 4");
    }

    private static void bitsThatItHasNot() {
        due.says("Promise 3: what the table has not is not looked at, its bits neither");
        for (int columns = 1; columns <= 4; columns++) {
            QueryRunner x = new QueryRunner();
            x.table(columns);
            int own = (1 << columns) - 1;
            due.is("all other bits", x.insert(0, 5, 5, 5, 5, ~own), 1);
            due.is("all bits", x.insert(0, 5, 5, 5, 5, -1), 2);
            due.is("the first bit that is not its own", x.insert(0, 5, 5, 5, 5, 1 << columns), 3);
            due.is("the last bit", x.insert(0, 5, 5, 5, 5, Integer.MIN_VALUE), 4);
            due.is("its own are still looked at", x.insert(0, MOST + 1, 5, 5, 5, ~own), OUTSIDE);
            String fives = "5 5 5 5".substring(0, 2 * columns - 1);
            contents(columns + " columns", x, 0, columns, fives, fives.replace('5', '-'), fives, fives);
        }
    }

    private static void noSuchTable() {
        due.says("Promise 3: UNKNOWN");
        QueryRunner x = new QueryRunner();
        x.table(1);
        x.table(1);
        for (int table : new int[] {Integer.MIN_VALUE, -1, 2, 6, Integer.MAX_VALUE}) {
            due.is("table " + table, insert(x, table, 1), UNKNOWN);
        }
        due.is("the last that there is", insert(x, 1, 1), 1);
        due.is("the first", insert(x, 0, 1), 1);
    }
}
