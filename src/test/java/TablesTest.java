/** Promises 1 to 3: a new object, table, insert. */
public final class TablesTest {
    private static final long MOST = 1000000000000L;
    private static final Due due = new Due("TablesTest");

    public static void main(String[] args) {
        newObject();
        tables();
        inserts();
        nullBits();
        insertsRefused();
        due.end();
    }

    private static void newObject() {
        QueryRunner x = new QueryRunner();
        due.is("new: insert", x.insert(0, 1, 1, 1, 1, 0), QueryRunner.UNKNOWN);
        due.is("new: source", x.source(0, 0, -1), QueryRunner.UNKNOWN);
        due.is("new: item", x.item(0), QueryRunner.UNKNOWN);
        due.is("new: group", x.group(0), QueryRunner.UNKNOWN);
        due.is("new: order", x.order(0, false), QueryRunner.UNKNOWN);
        due.is("new: answer(0)", x.answer(0), 0);
        due.is("new: answer(1)", x.answer(1), 0);
        due.is("new: cell(0, 0)", x.cell(0, 0), 0);
        due.is("new: isNull(0, 0)", x.isNull(0, 0), false);
        due.ends("new", x, -1);
        due.is("new: fresh", x.fresh(), 0);
        QueryRunner y = new QueryRunner();
        x.table(1);
        due.is("two objects: insert", y.insert(0, 1, 1, 1, 1, 0), QueryRunner.UNKNOWN);
    }

    private static void tables() {
        QueryRunner x = new QueryRunner();
        for (int columns : new int[] {Integer.MIN_VALUE, -1, 0, 5, Integer.MAX_VALUE}) {
            due.is("table(" + columns + ")", x.table(columns), QueryRunner.OUTSIDE);
        }
        int[] columns = {1, 4, 2, 3, 1, 4};
        for (int i = 0; i < columns.length; i++) {
            due.is("table " + i, x.table(columns[i]), i);
        }
        due.is("a seventh table", x.table(1), QueryRunner.ROOM);
        due.is("a seventh table, outside", x.table(0), QueryRunner.OUTSIDE);
        due.is("the sixth is there", x.insert(5, 1, 1, 1, 1, 0), 1);
        due.is("the seventh is not", x.insert(6, 1, 1, 1, 1, 0), QueryRunner.UNKNOWN);
    }

    private static void inserts() {
        QueryRunner x = new QueryRunner();
        x.table(4);
        x.table(2);
        due.is("first", x.insert(0, 1, -2, MOST, -MOST, 0), 1);
        due.is("second", x.insert(0, 5, 6, 7, 8, 0), 2);
        due.is("another table's", x.insert(1, 9, 10, MOST + 1, Long.MIN_VALUE, 0), 1);
        for (int i = 0; i < 4; i++) {
            x.item(x.column(0, i));
        }
        x.source(0, 0, -1);
        due.answers("four columns", x, "1 -2 " + MOST + " " + -MOST, "5 6 7 8");
        x.fresh();
        x.source(1, 0, -1);
        x.item(x.column(0, 0));
        x.item(x.column(0, 1));
        due.answers("two columns", x, "9 10");
    }

    private static void nullBits() {
        QueryRunner x = new QueryRunner();
        x.table(3);
        due.is("bit 0", x.insert(0, MOST + 1, 1, 2, 3, 1), 1);
        due.is("bit 1", x.insert(0, 4, Long.MAX_VALUE, 5, 3, 2), 2);
        due.is("bit 2", x.insert(0, 6, 7, Long.MIN_VALUE, 3, 4), 3);
        due.is("all bits", x.insert(0, 6, 7, 8, 9, -1), 4);
        due.is("bits of what it has not", x.insert(0, 6, 7, 8, 9, ~7), 5);
        x.source(0, 0, -1);
        for (int i = 0; i < 3; i++) {
            x.item(x.column(0, i));
        }
        due.answers("nulls", x, "- 1 2", "4 - 5", "6 7 -", "- - -", "6 7 8");
    }

    private static void insertsRefused() {
        QueryRunner x = new QueryRunner();
        x.table(2);
        due.is("no such table", x.insert(1, MOST + 1, 0, 0, 0, 0), QueryRunner.UNKNOWN);
        due.is("table -1", x.insert(-1, 0, 0, 0, 0, 0), QueryRunner.UNKNOWN);
        due.is("too large", x.insert(0, MOST + 1, 0, 0, 0, 0), QueryRunner.OUTSIDE);
        due.is("too small", x.insert(0, 0, -MOST - 1, 0, 0, 1), QueryRunner.OUTSIDE);
        due.is("least long", x.insert(0, Long.MIN_VALUE, 0, 0, 0, 0), QueryRunner.OUTSIDE);
        for (int i = 1; i <= 8; i++) {
            due.is("row " + i, x.insert(0, i, 0, 0, 0, 2), i);
        }
        due.is("a ninth row", x.insert(0, 9, 0, 0, 0, 0), QueryRunner.ROOM);
        due.is("a ninth row, outside", x.insert(0, MOST + 1, 0, 0, 0, 0), QueryRunner.OUTSIDE);
        x.source(0, 0, -1);
        x.item(x.column(0, 0));
        due.answers("what was refused is not there", x, "1", "2", "3", "4", "5", "6", "7", "8");
    }
}
