/** Promises 16 to 18, cell, isNull, answer: a test for each sentence that names an edge. */
public final class AnswerEdgesTest {
    private static final long NULL = Given.NULL;
    private static final int LEAST_INT = Integer.MIN_VALUE;
    private static final int GREATEST_INT = Integer.MAX_VALUE;
    private static final Due due = new Due("AnswerEdgesTest");

    public static void main(String[] args) {
        items();
        zeroForNull();
        noSuchCell();
        whetherItIsNull();
        noSuchNull();
        howManyRows();
        howManyItems();
        noAnswer();
        others();
        rowsOfAnEarlierAnswer();
        largestAnswer();
        asItWas();
        due.end();
    }

    // Three rows of two items, the second item of row 1 and the first of row 2 NULL.
    private static QueryRunner answered() {
        QueryRunner x = Given.pairs(7, 8, 9, NULL, NULL, 6);
        x.item(0);
        x.item(1);
        x.run();
        return x;
    }

    private static void items() {
        due.says("Promise 16: item i of a row of the answer");
        QueryRunner x = answered();
        due.is("the first of the first", x.cell(0, 0), 7);
        due.is("the last of the first", x.cell(0, 1), 8);
        due.is("the first of the second", x.cell(1, 0), 9);
        due.is("the last of the last", x.cell(2, 1), 6);
        QueryRunner y = Given.numbers(-1000000000000L, 1000000000000L);
        y.item(y.op(2, 0, y.constant(1000, false)));
        due.answers("the least and the greatest", y, "-1000000000000000", "1000000000000000");
    }

    private static void zeroForNull() {
        due.says("Promise 16: 0 for NULL");
        QueryRunner x = new QueryRunner();
        x.table(2);
        x.insert(0, 77, 88, 0, 0, 3);
        x.source(0, 0, -1);
        x.item(x.column(0, 0));
        x.item(x.constant(99, true));
        x.item(x.op(0, x.constant(5, false), 0));
        x.item(x.op(0, 0, x.constant(5, false)));
        x.item(x.column(0, 1));
        due.answers("whatever was told for it", x, "- - - - -");
        x.fresh();
        x.source(0, 0, -1);
        x.item(x.aggregate(2, x.column(0, 0), false));
        x.item(x.aggregate(4, 0, false));
        due.answers("of aggregates", x, "- -");
    }

    private static void noSuchCell() {
        due.says("Promise 16: 0 when there is none such");
        QueryRunner x = answered();
        for (int row : new int[] {LEAST_INT, -1, 3, 4, 200, GREATEST_INT}) {
            for (int i = 0; i <= 1; i++) {
                due.is("cell(" + row + ", " + i + ")", x.cell(row, i), 0);
            }
        }
        for (int i : new int[] {LEAST_INT, -1, 2, 3, 6, GREATEST_INT}) {
            for (int row = 0; row <= 2; row++) {
                due.is("cell(" + row + ", " + i + ")", x.cell(row, i), 0);
            }
        }
        due.is("neither", x.cell(3, 2), 0);
        due.is("neither, below", x.cell(-1, -1), 0);
    }

    private static void whetherItIsNull() {
        due.says("Promise 17: whether it is NULL");
        QueryRunner x = answered();
        due.is("a number", x.isNull(0, 0), false);
        due.is("a NULL", x.isNull(1, 1), true);
        due.is("a number before it", x.isNull(1, 0), false);
        due.is("a NULL of the last row", x.isNull(2, 0), true);
        due.is("a number behind it", x.isNull(2, 1), false);
        QueryRunner y = Given.numbers(0, NULL);
        y.item(0);
        due.answers("0 is none", y, "0", "-");
        for (int place = 0; place < 6; place++) {
            QueryRunner z = Given.numbers(NULL);
            int seven = z.constant(7, false);
            for (int i = 0; i < 6; i++) {
                z.item(i == place ? 0 : seven);
            }
            z.run();
            for (int i = 0; i < 6; i++) {
                due.is("item " + i + ", NULL is " + place, z.isNull(0, i), i == place);
            }
        }
    }

    private static void noSuchNull() {
        due.says("Promise 17: false when there is none such");
        QueryRunner x = Given.numbers(NULL, NULL);
        x.item(0);
        x.item(0);
        x.run();
        due.is("there is one", x.isNull(1, 1), true);
        for (int n : new int[] {LEAST_INT, -1, 2, 3, 6, 200, GREATEST_INT}) {
            due.is("isNull(" + n + ", 0)", x.isNull(n, 0), false);
            due.is("isNull(" + n + ", 1)", x.isNull(n, 1), false);
            due.is("isNull(0, " + n + ")", x.isNull(0, n), false);
            due.is("isNull(1, " + n + ")", x.isNull(1, n), false);
            due.is("isNull(" + n + ", " + n + ")", x.isNull(n, n), false);
        }
        x.shape(false, 1, 0);
        x.run();
        due.is("a row that is not kept", x.isNull(1, 0), false);
        x.shape(false, 1000, 1);
        x.run();
        due.is("one row is skipped, one is there", x.isNull(0, 0), true);
        due.is("and no other", x.isNull(1, 0), false);
    }

    private static void howManyRows() {
        due.says("Promise 18: how many rows (what = 0) the answer has");
        for (int rows = 0; rows <= 8; rows++) {
            QueryRunner x = Given.numbers(new long[rows]);
            x.item(0);
            due.is("run", x.run(), rows);
            due.is("answer(0)", x.answer(0), rows);
        }
        QueryRunner x = Given.numbers(1, 1, 2);
        x.item(0);
        x.shape(true, 1000, 0);
        x.run();
        due.is("without what is left out", x.answer(0), 2);
        x.shape(false, 1000, 1);
        x.run();
        due.is("without what is skipped", x.answer(0), 2);
        x.shape(false, 1, 0);
        x.run();
        due.is("what is kept alone", x.answer(0), 1);
    }

    private static void howManyItems() {
        due.says("Promise 18: how many items (1) the answer has");
        for (int rows = 0; rows <= 1; rows++) {
            for (int items = 1; items <= 6; items++) {
                QueryRunner x = Given.numbers(new long[rows]);
                for (int i = 0; i < items; i++) {
                    x.item(0);
                }
                x.run();
                due.is(items + " items, " + rows + " rows", x.answer(1), items);
            }
        }
    }

    private static void noAnswer() {
        due.says("Promise 18: 0 both when there is none");
        QueryRunner x = new QueryRunner();
        due.is("before any run: rows", x.answer(0), 0);
        due.is("before any run: items", x.answer(1), 0);
        x = answered();
        x.item(Given.divided(x));
        x.run();
        due.is("behind a run that went wrong: rows", x.answer(0), 0);
        due.is("behind a run that went wrong: items", x.answer(1), 0);
        for (int row = 0; row <= 2; row++) {
            for (int i = 0; i <= 1; i++) {
                due.is("no cell", x.cell(row, i), 0);
                due.is("no NULL", x.isNull(row, i), false);
            }
        }
    }

    private static void others() {
        due.says("Promise 18: -1 for others");
        for (QueryRunner x : new QueryRunner[] {new QueryRunner(), answered()}) {
            for (int what : new int[] {LEAST_INT, -2, -1, 2, 3, GREATEST_INT}) {
                due.is("answer(" + what + ")", x.answer(what), -1);
            }
        }
    }

    private static void rowsOfAnEarlierAnswer() {
        due.says("Promise 16: of the answer, not of an earlier one");
        QueryRunner x = Given.pairs(NULL, 5, 6, 7, 8, 9);
        x.item(0);
        x.item(1);
        x.item(0);
        due.is("three rows of three items", x.run(), 3);
        x.fresh();
        x.source(0, 0, -1);
        x.item(x.column(0, 1));
        x.shape(false, 1, 0);
        due.is("one row of one item", x.run(), 1);
        due.is("its cell", x.cell(0, 0), 5);
        due.is("it is no NULL", x.isNull(0, 0), false);
        for (int row = 0; row <= 3; row++) {
            for (int i = 0; i <= 3; i++) {
                if (row != 0 || i != 0) {
                    due.is("cell(" + row + ", " + i + ")", x.cell(row, i), 0);
                    due.is("isNull(" + row + ", " + i + ")", x.isNull(row, i), false);
                }
            }
        }
    }

    private static void largestAnswer() {
        due.says("Promise 16: the largest answer, 200 rows of six items");
        QueryRunner x = Given.manyRows();
        x.condition(0, x.op(7, Given.CODE, x.constant(200, false)));
        for (int i = 0; i < 6; i++) {
            x.item(x.op(0, x.op(2, Given.CODE, x.constant(10, false)), x.constant(i, i == 3)));
        }
        due.is("run", x.run(), 200);
        for (int row = 0; row < 200; row += 9) {
            for (int i = 0; i < 6; i++) {
                due.is("cell(" + row + ", " + i + ")", x.cell(row, i), i == 3 ? 0 : 10 * row + i);
            }
        }
        due.is("the last cell", x.cell(199, 5), 1995);
        due.is("the last NULL", x.isNull(199, 3), true);
        due.is("behind the last row", x.cell(200, 0), 0);
        due.is("behind the last row, NULL", x.isNull(200, 3), false);
        due.is("behind the last item", x.cell(199, 6), 0);
    }

    private static void asItWas() {
        due.says("Promise 16: the answer stays as it was till the next run");
        QueryRunner x = answered();
        String[] rows = {"7 8", "9 -", "- 6"};
        x.insert(0, 1, 1, 0, 0, 0);
        x.table(1);
        due.holds("behind insert and table", x, rows);
        x.item(0);
        x.group(0);
        x.order(0, true);
        x.condition(0, Given.never(x));
        x.condition(1, Given.never(x));
        x.source(0, 0, -1);
        due.holds("behind another item, group, order, condition, source", x, rows);
        x.shape(true, 0, 1000);
        due.holds("behind another shape", x, rows);
        x.fresh();
        due.holds("behind fresh", x, rows);
        x.fresh();
        x.constant(1, false);
        due.holds("behind fresh again", x, rows);
        due.ends("the next run", x, -1);
    }
}
