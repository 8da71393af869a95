/** Promises 4 to 8: fresh, constant, column, op, aggregate. */
public final class ExpressionsTest {
    private static final long MOST = 1000000000000L;
    private static final Due due = new Due("ExpressionsTest");

    public static void main(String[] args) {
        freshEmpties();
        constants();
        columns();
        operators();
        operatorsRefused();
        partsAreCounted();
        aggregates();
        sixtyExpressions();
        due.end();
    }

    private static QueryRunner withRows() {
        QueryRunner x = new QueryRunner();
        x.table(2);
        x.insert(0, 7, 1, 0, 0, 0);
        x.insert(0, 3, 1, 0, 0, 0);
        x.insert(0, 3, 1, 0, 0, 0);
        return x;
    }

    private static void freshEmpties() {
        QueryRunner x = withRows();
        int a = x.column(0, 0);
        int never = x.op(6, a, a);
        x.source(0, 0, -1);
        x.item(a);
        x.order(0, false);
        x.shape(true, 1, 1);
        due.answers("before", x, "7");
        x.condition(0, never);
        x.condition(1, never);
        x.group(a);
        due.is("fresh", x.fresh(), 2);
        due.is("the answer stays: answer(0)", x.answer(0), 1);
        due.is("the answer stays: answer(1)", x.answer(1), 1);
        due.is("the answer stays: cell", x.cell(0, 0), 7);
        due.is("no expression", x.item(0), QueryRunner.UNKNOWN);
        due.is("no item", x.order(0, false), QueryRunner.UNKNOWN);
        due.is("numbers start anew", x.column(0, 0), 0);
        due.is("sources start anew", x.source(0, 0, -1), 1);
        due.is("items start anew", x.item(0), 0);
        due.answers("behind fresh", x, "7", "3", "3");
        due.is("groups start anew", x.group(0), 1);
        due.is("orders start anew", x.order(0, false), 1);
        for (int i = 0; i < 8; i++) {
            x.aggregate(0, 0, false);
        }
        due.is("fresh again", x.fresh(), 9);
        x.column(0, 0);
        due.is("aggregates start anew", x.aggregate(0, 0, false), 1);
        due.is("the table is still full of its rows", x.insert(0, 1, 1, 1, 1, 0), 4);
        x.fresh();
        due.is("fresh of an empty query", x.fresh(), 0);
        due.ends("an empty query", x, -1);
    }

    private static void constants() {
        QueryRunner x = withRows();
        due.is("most", x.constant(MOST, false), 0);
        due.is("least", x.constant(-MOST, false), 1);
        due.is("null", x.constant(5, true), 2);
        due.is("above", x.constant(MOST + 1, false), QueryRunner.OUTSIDE);
        due.is("below", x.constant(-MOST - 1, false), QueryRunner.OUTSIDE);
        due.is("null with a number outside", x.constant(Long.MAX_VALUE, true), QueryRunner.OUTSIDE);
        due.is("what was refused has no number", x.constant(0, false), 3);
        x.source(0, 0, -1);
        for (int e = 0; e < 4; e++) {
            x.item(e);
        }
        x.shape(true, 1000, 0);
        due.answers("constants", x, MOST + " " + -MOST + " - 0");
    }

    private static void columns() {
        QueryRunner x = withRows();
        due.is("first", x.column(0, 0), 0);
        due.is("last", x.column(2, 3), 1);
        due.is("source -1", x.column(-1, 0), QueryRunner.OUTSIDE);
        due.is("source 3", x.column(3, 0), QueryRunner.OUTSIDE);
        due.is("column -1", x.column(0, -1), QueryRunner.OUTSIDE);
        due.is("column 4", x.column(0, 4), QueryRunner.OUTSIDE);
        due.is("the next", x.column(0, 1), 2);
    }

    private static void operators() {
        long[] values = {7, -7, 7, -7, 0};
        long[] others = {2, 2, -2, -2, 5};
        String[] results = {"9 5 14 3 1", "-5 -9 -14 -3 -1", "5 9 -14 -3 1", "-9 -5 14 3 -1", "5 -5 0 0 0"};
        for (int i = 0; i < values.length; i++) {
            QueryRunner x = new QueryRunner();
            x.table(1);
            x.insert(0, 0, 0, 0, 0, 0);
            x.source(0, 0, -1);
            x.constant(values[i], false);
            x.constant(others[i], false);
            for (int kind = 0; kind <= 4; kind++) {
                due.is("op " + kind, x.op(kind, 0, 1), 2 + kind);
                x.item(2 + kind);
            }
            due.answers(values[i] + " with " + others[i], x, results[i]);
        }
    }

    private static void operatorsRefused() {
        QueryRunner x = withRows();
        int value = x.column(0, 0);
        int truth = x.op(5, value, value);
        for (int kind = 0; kind <= 10; kind++) {
            boolean ofTruths = kind >= 9;
            int right = ofTruths ? truth : value;
            int wrong = ofTruths ? value : truth;
            due.is("first wanting, op " + kind, x.op(kind, 9, right), QueryRunner.UNKNOWN);
            due.is("second wanting, op " + kind, x.op(kind, right, -1), QueryRunner.UNKNOWN);
            due.is("first of another sort, op " + kind, x.op(kind, wrong, right), QueryRunner.STATE);
            due.is("second of another sort, op " + kind, x.op(kind, right, wrong), QueryRunner.STATE);
        }
        due.is("NOT of a value", x.op(11, value, truth), QueryRunner.STATE);
        due.is("NOT of nothing", x.op(11, 2, truth), QueryRunner.UNKNOWN);
        due.is("IS NULL of a truth", x.op(12, truth, value), QueryRunner.STATE);
        due.is("IS NULL of nothing", x.op(12, -1, value), QueryRunner.UNKNOWN);
        due.is("op -1", x.op(-1, value, truth), QueryRunner.OUTSIDE);
        due.is("op 13", x.op(13, value, truth), QueryRunner.OUTSIDE);
        due.is("op 13 of nothing", x.op(13, value, 2), QueryRunner.UNKNOWN);
        due.is("NOT, its second not looked at", x.op(11, truth, 99), 2);
        due.is("IS NULL, its second not looked at", x.op(12, value, -5), 3);
        due.is("NOT, its second a value", x.op(11, 2, value), 4);
    }

    private static void partsAreCounted() {
        QueryRunner x = withRows();
        int one = x.column(0, 0);
        int three = x.op(0, one, one);
        int seven = x.op(0, three, three);
        int fifteen = x.op(0, seven, seven);
        int thirtyOne = x.op(0, fifteen, fifteen);
        int fortySeven = x.op(0, thirtyOne, fifteen);
        int fiftyFive = x.op(0, fortySeven, seven);
        int fiftyNine = x.op(0, fiftyFive, three);
        due.is("61 parts", x.op(0, fiftyNine, one), QueryRunner.ROOM);
        due.is("61 parts, a truth", x.op(5, one, fiftyNine), QueryRunner.ROOM);
        int count = fiftyNine + 1;
        due.is("an aggregate of 60 parts", x.aggregate(2, fiftyNine, false), count);
        due.is("IS NULL of 60 parts", x.op(12, fiftyNine, 0), count + 1);
        due.is("NOT of 61 parts", x.op(11, count + 1, 0), QueryRunner.ROOM);
        due.is("IS NULL of 61 parts", x.op(12, count, 0), QueryRunner.ROOM);
        due.is("57 parts", x.op(0, fiftyFive, one), count + 2);
        due.is("59 parts", x.op(0, count + 2, one), count + 3);
        due.is("63 parts", x.op(0, thirtyOne, thirtyOne), QueryRunner.ROOM);
        x.source(0, 0, -1);
        x.item(count);
        due.answers("the sum of thirty, three times", x, Long.toString(30 * (7 + 3 + 3)));
    }

    private static void aggregates() {
        QueryRunner x = withRows();
        int value = x.column(0, 0);
        int truth = x.op(5, value, value);
        due.is("of nothing", x.aggregate(9, 2, false), QueryRunner.UNKNOWN);
        due.is("kind -1", x.aggregate(-1, truth, false), QueryRunner.OUTSIDE);
        due.is("kind 6", x.aggregate(6, truth, true), QueryRunner.OUTSIDE);
        due.is("of a truth", x.aggregate(0, truth, false), QueryRunner.STATE);
        due.is("an aggregate", x.aggregate(5, value, false), 2);
        due.is("of an aggregate", x.aggregate(0, 2, false), QueryRunner.STATE);
        int deep = x.op(0, x.op(1, value, 2), value);
        due.is("of something with an aggregate", x.aggregate(1, deep, true), QueryRunner.STATE);
        for (int i = 1; i < 8; i++) {
            due.is("aggregate " + i, x.aggregate(i % 6, value, true), deep + i);
        }
        due.is("a ninth", x.aggregate(0, value, false), QueryRunner.ROOM);
        due.is("a ninth, of a truth", x.aggregate(0, truth, false), QueryRunner.STATE);
        due.is("an operator is still fine", x.op(0, 2, deep), deep + 8);
    }

    private static void sixtyExpressions() {
        QueryRunner x = withRows();
        for (int e = 0; e < 60; e++) {
            due.is("expression " + e, e % 2 == 0 ? x.constant(e, false) : x.column(0, 0), e);
        }
        due.is("constant", x.constant(0, false), QueryRunner.ROOM);
        due.is("constant, outside", x.constant(MOST + 1, false), QueryRunner.OUTSIDE);
        due.is("column", x.column(0, 0), QueryRunner.ROOM);
        due.is("column, outside", x.column(3, 0), QueryRunner.OUTSIDE);
        due.is("op", x.op(0, 0, 0), QueryRunner.ROOM);
        due.is("op, state", x.op(9, 0, 0), QueryRunner.STATE);
        due.is("aggregate", x.aggregate(0, 0, false), QueryRunner.ROOM);
        due.is("the last is there", x.item(59), 0);
        due.is("fresh", x.fresh(), 60);
        due.is("room again", x.constant(0, false), 0);
    }
}
