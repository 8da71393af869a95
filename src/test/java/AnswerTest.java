/** Promises 16 to 18: cell, isNull, answer. */
public final class AnswerTest {
    private static final Due due = new Due("AnswerTest");
    private static final int[] BEYOND = {Integer.MIN_VALUE, -1, 2, 3, 6, 200, Integer.MAX_VALUE};

    public static void main(String[] args) {
        QueryRunner x = new QueryRunner();
        x.table(2);
        x.insert(0, 7, 0, 0, 0, 2);
        x.insert(0, 0, 8, 0, 0, 0);
        before(x);
        x.source(0, 0, -1);
        x.item(x.column(0, 0));
        x.item(x.column(0, 1));
        due.answers("an answer", x, "7 -", "0 8");
        due.is("a NULL", x.isNull(0, 1), true);
        due.is("the number of a NULL", x.cell(0, 1), 0);
        due.is("0 is no NULL", x.isNull(1, 0), false);
        beyond(x);
        whatIsBuiltNextChangesNothing(x);
        emptyAnswer(x);
        due.end();
    }

    private static void before(QueryRunner x) {
        due.is("before any run: answer(0)", x.answer(0), 0);
        due.is("before any run: answer(1)", x.answer(1), 0);
        due.is("before any run: answer(2)", x.answer(2), -1);
        due.is("before any run: cell", x.cell(0, 0), 0);
        due.is("before any run: isNull", x.isNull(0, 0), false);
    }

    private static void beyond(QueryRunner x) {
        for (int n : BEYOND) {
            due.is("cell(" + n + ", 0)", x.cell(n, 0), 0);
            due.is("cell(0, " + n + ")", x.cell(0, n), 0);
            due.is("isNull(" + n + ", 1)", x.isNull(n, 1), false);
            due.is("isNull(0, " + n + ")", x.isNull(0, n), false);
            due.is("isNull(" + n + ", " + n + ")", x.isNull(n, n), false);
            due.is("answer(" + n + ")", x.answer(n), -1);
        }
    }

    private static void whatIsBuiltNextChangesNothing(QueryRunner x) {
        x.item(0);
        x.order(0, false);
        x.shape(true, 1, 1);
        x.insert(0, 1, 1, 1, 1, 0);
        due.is("answer(0)", x.answer(0), 2);
        due.is("answer(1)", x.answer(1), 2);
        due.is("cell(0, 0)", x.cell(0, 0), 7);
        due.is("cell(0, 2)", x.cell(0, 2), 0);
        x.fresh();
        due.is("behind fresh: answer(0)", x.answer(0), 2);
        due.is("behind fresh: cell(1, 1)", x.cell(1, 1), 8);
    }

    private static void emptyAnswer(QueryRunner x) {
        x.source(0, 0, -1);
        x.item(x.column(0, 0));
        x.item(0);
        x.item(0);
        x.condition(0, x.op(6, 0, 0));
        due.is("no rows", x.run(), 0);
        due.is("no rows: answer(0)", x.answer(0), 0);
        due.is("no rows: answer(1)", x.answer(1), 3);
        due.is("no rows: cell", x.cell(0, 0), 0);
        due.is("no rows: isNull", x.isNull(0, 1), false);
    }
}
