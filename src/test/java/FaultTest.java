/** Promise 15: what is not right with a query, which of it is told first, and that there is no answer then. */
public final class FaultTest {
    private static final Due due = new Due("FaultTest");

    public static void main(String[] args) {
        nothingToRun();
        unknownSources();
        unknownColumns();
        columnsOfOn();
        earlyAggregates();
        looseColumns();
        firstOfSeveral();
        tooManyRows();
        noAnswerBehindAFault();
        due.end();
    }

    // Table 0 has one column, table 1 two, one row each.
    private static QueryRunner start() {
        QueryRunner x = new QueryRunner();
        x.table(1);
        x.table(2);
        x.insert(0, 1, 0, 0, 0, 0);
        x.insert(1, 2, 3, 0, 0, 0);
        return x;
    }

    private static void nothingToRun() {
        QueryRunner x = start();
        due.ends("neither", x, -1);
        x.item(x.column(2, 3));
        due.ends("no source", x, -1);
        QueryRunner y = start();
        y.source(0, 0, -1);
        due.ends("no item", y, -1);
        y.group(y.column(2, 0));
        due.ends("no item, an unknown column", y, -1);
    }

    private static void unknownSources() {
        int[] parts = {0, 1, 2, 3};
        for (int part : parts) {
            QueryRunner x = start();
            x.source(1, 0, -1);
            x.item(x.constant(1, false));
            int deep = x.op(0, x.constant(1, false), x.column(1, 0));
            int truth = x.op(11, x.op(12, deep, 0), 0);
            place(x, part, deep, truth);
            due.ends("a source that there is not, place " + part, x, -11);
            x.source(1, 0, -1);
            due.is("now there is, place " + part, x.run() == -11, false);
        }
    }

    private static void place(QueryRunner x, int part, int value, int truth) {
        if (part == 0) {
            x.item(value);
        } else if (part == 1) {
            x.group(value);
        } else {
            x.condition(part - 2, truth);
        }
    }

    private static void unknownColumns() {
        QueryRunner x = start();
        x.source(1, 0, -1);
        x.source(0, 0, -1);
        x.item(x.column(0, 1));
        due.answers("the second column of table 1", x, "3");
        x.item(x.column(1, 1));
        due.ends("the second column of table 0", x, -11);
        QueryRunner y = start();
        y.source(1, 0, -1);
        y.item(y.aggregate(2, y.column(0, 2), false));
        due.ends("a column in an aggregate", y, -11);
        QueryRunner z = start();
        z.source(1, 0, -1);
        z.column(0, 3);
        z.item(z.column(0, 1));
        due.answers("a column that is not in use", z, "3");
    }

    private static void columnsOfOn() {
        QueryRunner x = start();
        int later = x.op(12, x.column(2, 0), 0);
        int own = x.op(12, x.column(1, 0), 0);
        x.source(0, 0, -1);
        x.source(0, 2, own);
        x.source(0, 2, own);
        x.item(x.column(2, 0));
        due.answers("at it and before it", x, "1");
        QueryRunner y = start();
        later = y.op(12, y.column(2, 0), 0);
        y.source(0, 0, -1);
        y.source(0, 2, later);
        y.source(0, 0, -1);
        y.item(y.column(2, 0));
        due.ends("behind it", y, -11);
        QueryRunner z = start();
        z.source(0, 0, -1);
        z.source(0, 2, z.op(12, z.column(1, 1), 0));
        z.item(z.column(0, 0));
        due.ends("a column that its table has not", z, -11);
    }

    private static void earlyAggregates() {
        for (int part = 0; part < 3; part++) {
            QueryRunner x = start();
            int sum = x.op(0, x.aggregate(0, x.column(0, 0), false), x.constant(1, false));
            int truth = x.op(11, x.op(12, sum, 0), 0);
            x.source(0, 0, -1);
            x.item(x.constant(1, false));
            if (part == 0) {
                x.source(0, 1, truth);
            } else if (part == 1) {
                x.condition(0, truth);
            } else {
                x.group(sum);
            }
            due.ends("an aggregate in place " + part, x, -12);
        }
        QueryRunner x = start();
        x.source(0, 0, -1);
        int sum = x.aggregate(2, x.column(0, 0), false);
        x.item(sum);
        x.condition(1, x.op(11, x.op(12, sum, 0), 0));
        due.answers("an aggregate in having and items", x, "1");
    }

    private static void looseColumns() {
        QueryRunner x = start();
        x.source(1, 0, -1);
        int a = x.column(0, 0);
        int b = x.column(0, 1);
        x.group(a);
        x.item(x.op(0, a, x.aggregate(2, b, false)));
        due.answers("a group and a column in an aggregate", x, "5");
        x.item(x.op(0, x.op(0, a, a), x.op(0, a, b)));
        due.ends("a column deep in an item", x, -13);
        QueryRunner y = start();
        y.source(1, 0, -1);
        y.item(y.column(0, 0));
        y.item(y.aggregate(0, 0, false));
        due.ends("no groups at all", y, -13);
        QueryRunner z = start();
        z.source(1, 0, -1);
        z.source(1, 0, -1);
        z.group(z.column(0, 0));
        z.item(z.column(1, 0));
        due.ends("the same column of another source", z, -13);
    }

    private static void firstOfSeveral() {
        QueryRunner x = start();
        x.source(0, 0, -1);
        int a = x.column(0, 0);
        int count = x.aggregate(0, a, false);
        int zero = x.constant(0, false);
        x.item(x.op(3, a, zero));
        due.ends("wrong alone", x, -20);
        x.condition(1, x.op(5, a, a));
        due.ends("-13 before what goes wrong", x, -13);
        x.condition(0, x.op(5, count, count));
        due.ends("-12 before -13", x, -12);
        x.item(x.column(1, 0));
        due.ends("-11 before -12", x, -11);
    }

    private static void tooManyRows() {
        QueryRunner x = Given.manyRows();
        int code = Given.CODE;
        int last = x.constant(199, false);
        x.item(code);
        due.ends("512 rows", x, -15);
        x.shape(true, 1, 0);
        due.ends("512 rows, one kept", x, -15);
        x.condition(0, x.op(8, code, x.constant(200, false)));
        due.ends("201 rows", x, -15);
        x.shape(false, 1000, 0);
        x.condition(0, x.op(8, code, last));
        due.is("200 rows", x.run(), 200);
        due.is("the last of them", x.cell(199, 0), 199);
        x.condition(0, x.op(8, code, x.constant(200, false)));
        x.item(x.op(3, code, x.op(1, code, x.constant(200, false))));
        due.ends("the items of the 201st are not worked out", x, -15);
        x.item(x.op(3, code, x.op(1, code, last)));
        due.ends("those of the 200th are", x, -20);
        QueryRunner y = Given.manyRows();
        y.item(y.aggregate(0, 0, false));
        due.answers("512 rows in one group", y, "512");
    }

    private static void noAnswerBehindAFault() {
        QueryRunner x = start();
        x.source(1, 0, -1);
        int a = x.column(0, 0);
        x.item(a);
        due.answers("an answer", x, "2");
        x.item(x.op(3, a, x.constant(0, false)));
        due.ends("something goes wrong", x, -20);
        x.fresh();
        x.source(1, 0, -1);
        x.item(x.column(0, 1));
        due.answers("another answer", x, "3");
        x.fresh();
        due.is("it stays behind fresh", x.cell(0, 0), 3);
        due.ends("no source, no item", x, -1);
    }
}
