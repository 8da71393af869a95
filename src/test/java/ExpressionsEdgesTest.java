/** Promises 4 to 8, EXPRESSIONS: a test for each sentence that names an edge. */
public final class ExpressionsEdgesTest {
    private static final long MOST = Given.MOST_VALUE;
    private static final int UNKNOWN = QueryRunner.UNKNOWN;
    private static final int OUTSIDE = QueryRunner.OUTSIDE;
    private static final int STATE = QueryRunner.STATE;
    private static final int ROOM = QueryRunner.ROOM;
    private static final int LEAST_INT = Integer.MIN_VALUE;
    private static final int GREATEST_INT = Integer.MAX_VALUE;
    private static final Due due = new Due("ExpressionsEdgesTest");

    public static void main(String[] args) {
        freshCounts();
        freshEmpties();
        freshEmptiesTheShape();
        freshKeepsTables();
        freshKeepsTheAnswer();
        constantsWithin();
        nullConstants();
        columnsWithin();
        columnsOfNothing();
        sixtyExpressions();
        operatorsWithin();
        operatorsOfUnknown();
        secondsNotLookedAt();
        valuesAndTruths();
        sixtyPartsOfTwoValues();
        sixtyPartsOfTwoTruths();
        sixtyPartsOfOne();
        eachAsOftenAsItIsThere();
        aggregatesWithin();
        aggregatesOfUnknown();
        aggregatesOfTruths();
        aggregatesOfAggregates();
        eightAggregates();
        sixtyPartsOfAnAggregate();
        due.end();
    }

    // A sum of ones with so many parts, an odd number.
    private static int value(QueryRunner x, int parts) {
        int one = x.column(0, 0);
        int sum = one;
        for (int i = 1; i < parts; i += 2) {
            sum = x.op(0, sum, one);
        }
        return sum;
    }

    private static void freshCounts() {
        due.says("Promise 4: how many expressions there were");
        QueryRunner x = new QueryRunner();
        due.is("none", x.fresh(), 0);
        x.constant(1, false);
        due.is("one", x.fresh(), 1);
        due.is("none again", x.fresh(), 0);
        x.aggregate(0, x.op(0, x.constant(1, true), x.column(0, 0)), false);
        x.op(12, 0, 0);
        x.op(20, 0, 0);
        x.constant(MOST + 1, false);
        due.is("of all kinds, without the refused ones", x.fresh(), 5);
        for (int i = 0; i < 61; i++) {
            x.constant(i, false);
        }
        due.is("sixty", x.fresh(), 60);
    }

    private static void freshEmpties() {
        due.says("Promise 4: the query is empty");
        QueryRunner x = Given.numbers(2, 1, 2);
        x.item(0);
        x.item(0);
        x.source(0, 0, -1);
        x.condition(0, Given.never(x));
        x.condition(1, Given.never(x));
        x.group(0);
        x.order(0, false);
        for (int i = 0; i < 8; i++) {
            x.aggregate(i % 6, 0, false);
        }
        x.fresh();
        due.is("no source, no item", x.run(), -1);
        due.is("no expression", x.item(0), UNKNOWN);
        due.is("expressions start anew", x.column(0, 0), 0);
        due.is("no item yet", x.order(0, false), UNKNOWN);
        due.is("items start anew", x.item(0), 0);
        due.is("no source yet", x.run(), -1);
        due.is("the first source again", x.source(0, 1, x.op(5, 0, 0)), STATE);
        due.is("sources start anew", x.source(0, 0, -1), 1);
        due.answers("no where, no having, no group, no order", x, "2", "1", "2");
        due.is("groups start anew", x.group(0), 1);
        due.is("orders start anew", x.order(0, false), 1);
        for (int i = 0; i < 8; i++) {
            due.is("aggregates start anew", x.aggregate(0, 0, false), 2 + i);
        }
        due.is("eight of them", x.aggregate(0, 0, false), ROOM);
    }

    private static void freshEmptiesTheShape() {
        due.says("Promise 14: at first, and behind fresh(), it is not; 1000 then; 0 then");
        QueryRunner x = Given.numbers(2, 1, 2);
        x.item(0);
        x.shape(true, 1, 1);
        due.answers("a shape", x, "1");
        x.fresh();
        x.source(0, 0, -1);
        x.item(x.column(0, 0));
        due.answers("behind fresh", x, "2", "1", "2");
        x.shape(false, 0, 0);
        x.fresh();
        x.source(0, 0, -1);
        x.item(x.column(0, 0));
        due.answers("none kept before", x, "2", "1", "2");
    }

    private static void freshKeepsTables() {
        due.says("Promise 4: the query alone is empty");
        QueryRunner x = Given.numbers(1, 2, Given.NULL);
        x.table(4);
        x.fresh();
        due.is("rows stay", x.insert(0, 4, 0, 0, 0, 0), 4);
        due.is("tables stay", x.table(1), 2);
        x.source(0, 0, -1);
        x.item(x.column(0, 0));
        due.answers("what they hold stays", x, "1", "2", "-", "4");
    }

    private static void freshKeepsTheAnswer() {
        due.says("Promise 4: (The answer stays.)");
        QueryRunner x = Given.pairs(7, Given.NULL, 8, 9);
        x.item(0);
        x.item(1);
        x.run();
        x.fresh();
        due.holds("behind fresh", x, "7 -", "8 9");
        x.fresh();
        x.column(0, 1);
        x.source(0, 0, -1);
        x.item(0);
        due.holds("behind another query's calls", x, "7 -", "8 9");
        due.answers("till the next run", x, "-", "9");
    }

    private static void constantsWithin() {
        due.says("Promise 5: OUTSIDE (v -10^12 .. 10^12)");
        QueryRunner x = Given.numbers(0);
        for (long v : new long[] {MOST + 1, -MOST - 1, Long.MAX_VALUE, Long.MIN_VALUE}) {
            due.is("constant " + v, x.constant(v, false), OUTSIDE);
        }
        long[] within = {MOST, -MOST, 0, MOST - 1, 1 - MOST};
        StringBuilder row = new StringBuilder();
        for (int i = 0; i < within.length; i++) {
            due.is("constant " + within[i], x.constant(within[i], false), 1 + i);
            x.item(1 + i);
            row.append(i == 0 ? "" : " ").append(within[i]);
        }
        due.answers("constants", x, row.toString());
    }

    private static void nullConstants() {
        due.says("Promise 5: a CONSTANT, or NULL");
        QueryRunner x = Given.numbers(0);
        due.is("NULL", x.constant(5, true), 1);
        due.is("NULL, v at the upper edge", x.constant(MOST, true), 2);
        due.is("NULL, v at the lower edge", x.constant(-MOST, true), 3);
        due.is("NULL, v above", x.constant(MOST + 1, true), OUTSIDE);
        due.is("NULL, v below", x.constant(-MOST - 1, true), OUTSIDE);
        due.is("0 is no NULL", x.constant(0, false), 4);
        for (int e = 1; e <= 4; e++) {
            x.item(e);
        }
        due.answers("NULLs", x, "- - - 0");
    }

    private static void columnsWithin() {
        due.says("Promise 6: a COLUMN 0 .. 3 of source 0 .. 2");
        QueryRunner x = new QueryRunner();
        for (int n : new int[] {LEAST_INT, -1, 4, GREATEST_INT}) {
            due.is("column " + n, x.column(0, n), OUTSIDE);
            due.is("column " + n + " of source 2", x.column(2, n), OUTSIDE);
        }
        for (int n : new int[] {LEAST_INT, -1, 3, GREATEST_INT}) {
            due.is("source " + n, x.column(n, 0), OUTSIDE);
            due.is("column 3 of source " + n, x.column(n, 3), OUTSIDE);
        }
        int next = 0;
        for (int source = 0; source <= 2; source++) {
            for (int column = 0; column <= 3; column++) {
                due.is("column " + column + " of source " + source, x.column(source, column), next);
                next++;
            }
        }
    }

    private static void columnsOfNothing() {
        due.says("Promise 6: a column of a source that there is not is a matter of the run");
        QueryRunner x = new QueryRunner();
        due.is("without any table", x.column(2, 3), 0);
        x.table(4);
        x.insert(0, 1, 2, 3, 4, 0);
        for (int i = 0; i < 3; i++) {
            x.source(0, 0, -1);
        }
        x.item(0);
        due.answers("the sources came later", x, "4");
    }

    private static void sixtyExpressions() {
        due.says("EXPRESSIONS 0, 1, .. (60 at most)");
        for (int kind = 0; kind < 4; kind++) {
            QueryRunner x = new QueryRunner();
            for (int e = 0; e < 59; e++) {
                due.is("expression " + e, x.constant(e, false), e);
            }
            due.is("the sixtieth, kind " + kind, make(x, kind), 59);
            for (int next = 0; next < 4; next++) {
                due.is("a 61st, kind " + next, make(x, next), ROOM);
            }
            due.is("a 61st, NULL", x.constant(0, true), ROOM);
            due.is("a 61st, IS NULL", x.op(12, 0, 0), ROOM);
            due.is("the sixtieth is there", x.item(59), 0);
            due.is("the 61st is not", x.item(60), UNKNOWN);
            due.is("all of them", x.fresh(), 60);
            due.is("room again", make(x, 0), 0);
        }
    }

    private static int make(QueryRunner x, int kind) {
        switch (kind) {
            case 0:
                return x.constant(1, false);
            case 1:
                return x.column(0, 0);
            case 2:
                return x.op(0, 0, 0);
            default:
                return x.aggregate(0, 0, false);
        }
    }

    private static void operatorsWithin() {
        due.says("Promise 7: an operator 0 .. 12");
        QueryRunner x = new QueryRunner();
        x.constant(1, false);
        x.op(12, 0, 0);
        for (int kind : new int[] {LEAST_INT, -1, 13, 14, GREATEST_INT}) {
            due.is("of values, kind " + kind, x.op(kind, 0, 0), OUTSIDE);
            due.is("of truths, kind " + kind, x.op(kind, 1, 1), OUTSIDE);
        }
        for (int kind = 0; kind <= 12; kind++) {
            int of = kind >= 9 && kind <= 11 ? 1 : 0;
            due.is("kind " + kind, x.op(kind, of, of), 2 + kind);
        }
    }

    private static void operatorsOfUnknown() {
        due.says("Promise 7: UNKNOWN");
        for (int kind = 0; kind <= 12; kind++) {
            QueryRunner x = new QueryRunner();
            int value = x.constant(1, false);
            int truth = x.op(12, value, 0);
            int of = kind >= 9 && kind <= 11 ? truth : value;
            for (int e : new int[] {LEAST_INT, -1, 2, 60, GREATEST_INT}) {
                due.is("first, kind " + kind + " of " + e, x.op(kind, e, of), UNKNOWN);
                if (kind < 11) {
                    due.is("second, kind " + kind + " of " + e, x.op(kind, of, e), UNKNOWN);
                }
                due.is("both, kind " + kind + " of " + e, x.op(kind, e, e), UNKNOWN);
            }
        }
    }

    private static void secondsNotLookedAt() {
        due.says("Promise 7: of 11 and 12 b is not looked at");
        QueryRunner x = new QueryRunner();
        int value = x.constant(1, false);
        int truth = x.op(12, value, 0);
        int next = 2;
        for (int b : new int[] {LEAST_INT, -1, value, truth, 59, 60, GREATEST_INT}) {
            due.is("NOT, b " + b, x.op(11, truth, b), next);
            due.is("IS NULL, b " + b, x.op(12, value, b), next + 1);
            next += 2;
        }
        int large = value(x, 39);
        int largeTruth = x.op(12, large, 0);
        due.is("NOT, b of many parts", x.op(11, largeTruth, largeTruth), largeTruth + 1);
        due.is("IS NULL, b of many parts", x.op(12, large, largeTruth), largeTruth + 2);
    }

    private static void valuesAndTruths() {
        due.says("Promise 7: STATE (a value where a truth is wanted, or a truth where a value is)");
        for (int kind = 0; kind <= 12; kind++) {
            QueryRunner x = new QueryRunner();
            int[] values = {x.constant(1, false), x.constant(0, true), x.column(0, 0), x.op(0, 0, 0),
                x.op(4, 0, 0), x.aggregate(0, 0, false)};
            int[] truths = {x.op(5, 0, 0), x.op(8, 0, 0), x.op(9, 6, 6), x.op(10, 6, 6), x.op(11, 6, 0), x.op(12, 0, 0)};
            boolean ofTruths = kind >= 9 && kind <= 11;
            int[] right = ofTruths ? truths : values;
            int[] wrong = ofTruths ? values : truths;
            int next = 12;
            for (int i = 0; i < 6; i++) {
                due.is("kind " + kind + ", the first is wrong", x.op(kind, wrong[i], right[i]), STATE);
                if (kind < 11) {
                    due.is("kind " + kind + ", the second is wrong", x.op(kind, right[i], wrong[i]), STATE);
                }
                due.is("kind " + kind + ", both are wrong", x.op(kind, wrong[i], wrong[i]), STATE);
                due.is("kind " + kind + ", both are right", x.op(kind, right[i], right[5 - i]), next);
                next++;
            }
        }
    }

    private static void sixtyPartsOfTwoValues() {
        due.says("Promise 7: ROOM (also when it would be put together of more than 60), of two values");
        for (int kind = 0; kind <= 8; kind++) {
            QueryRunner x = new QueryRunner();
            int odd = value(x, 29);
            int even = x.aggregate(2, odd, false);
            due.is("60 parts, kind " + kind, x.op(kind, even, odd), even + 1);
            due.is("60 parts the other way round", x.op(kind, odd, even), even + 2);
            due.is("61 parts, kind " + kind, x.op(kind, even, even), ROOM);
            int most = value(x, 59);
            due.is("59 parts and one, kind " + kind, x.op(kind, most, 0), ROOM);
            due.is("one and 59 parts, kind " + kind, x.op(kind, 0, most), ROOM);
        }
    }

    private static void sixtyPartsOfTwoTruths() {
        due.says("Promise 7: ROOM (also when it would be put together of more than 60), of two truths");
        for (int kind = 9; kind <= 10; kind++) {
            QueryRunner x = new QueryRunner();
            int large = value(x, 29);
            int even = x.op(12, large, 0);
            int odd = x.op(5, x.op(1, value(x, 25), 0), 0);
            due.is("60 parts, kind " + kind, x.op(kind, even, odd), odd + 1);
            due.is("60 parts the other way round", x.op(kind, odd, even), odd + 2);
            due.is("61 parts, kind " + kind, x.op(kind, even, even), ROOM);
            due.is("60 parts and 29", x.op(kind, odd + 1, odd), ROOM);
        }
    }

    private static void sixtyPartsOfOne() {
        due.says("Promise 7: ROOM (also when it would be put together of more than 60), of one");
        QueryRunner x = new QueryRunner();
        int most = value(x, 59);
        int isNull = x.op(12, most, 0);
        due.is("IS NULL of 59", isNull, most + 1);
        due.is("NOT of 60", x.op(11, isNull, 0), ROOM);
        x = new QueryRunner();
        int large = value(x, 55);
        int sixty = x.op(11, x.op(11, x.op(11, x.op(11, x.op(12, large, 0), 0), 0), 0), 0);
        due.is("NOT of 59", sixty, large + 5);
        due.is("NOT of 60", x.op(11, sixty, 0), ROOM);
        x = new QueryRunner();
        int sum = x.aggregate(2, value(x, 59), false);
        due.is("IS NULL of 60", x.op(12, sum, 0), ROOM);
    }

    private static void eachAsOftenAsItIsThere() {
        due.says("EXPRESSIONS: put together of 60 at most, each as often as it is there");
        QueryRunner x = Given.numbers(1);
        int thirtyOne = 0;
        for (int i = 0; i < 4; i++) {
            thirtyOne = x.op(0, thirtyOne, thirtyOne);
        }
        due.is("31 and 31", x.op(0, thirtyOne, thirtyOne), ROOM);
        due.is("31 and 15", x.op(0, thirtyOne, thirtyOne - 1), thirtyOne + 1);
        due.is("47 and 7", x.op(0, thirtyOne + 1, thirtyOne - 2), thirtyOne + 2);
        due.is("55 and 3", x.op(0, thirtyOne + 2, thirtyOne - 3), thirtyOne + 3);
        due.is("59 and 1", x.op(0, thirtyOne + 3, 0), ROOM);
        x.item(thirtyOne + 3);
        due.answers("thirty ones", x, "30");
    }

    private static void aggregatesWithin() {
        due.says("Promise 8: an AGGREGATE 0 .. 5");
        QueryRunner x = new QueryRunner();
        x.column(0, 0);
        for (int kind : new int[] {LEAST_INT, -1, 6, GREATEST_INT}) {
            due.is("kind " + kind, x.aggregate(kind, 0, false), OUTSIDE);
            due.is("kind " + kind + ", distinct", x.aggregate(kind, 0, true), OUTSIDE);
        }
        for (int kind = 0; kind <= 5; kind++) {
            due.is("kind " + kind, x.aggregate(kind, 0, kind % 2 == 0), 1 + kind);
        }
    }

    private static void aggregatesOfUnknown() {
        due.says("Promise 8: UNKNOWN");
        QueryRunner x = new QueryRunner();
        x.column(0, 0);
        x.column(0, 1);
        for (int e : new int[] {LEAST_INT, -1, 2, 60, GREATEST_INT}) {
            for (int kind = 0; kind <= 5; kind++) {
                due.is("kind " + kind + " of " + e, x.aggregate(kind, e, false), UNKNOWN);
            }
        }
        due.is("the last that there is", x.aggregate(0, 1, false), 2);
    }

    private static void aggregatesOfTruths() {
        due.says("Promise 8: STATE (a truth)");
        QueryRunner x = new QueryRunner();
        int value = x.constant(1, false);
        int[] truths = {x.op(5, 0, 0), x.op(6, 0, 0), x.op(7, 0, 0), x.op(8, 0, 0), x.op(9, 1, 1), x.op(10, 1, 1),
            x.op(11, 1, 0), x.op(12, 0, 0)};
        for (int truth : truths) {
            for (int kind = 0; kind <= 5; kind++) {
                due.is("kind " + kind + " of " + truth, x.aggregate(kind, truth, false), STATE);
            }
        }
        due.is("of a value", x.aggregate(0, value, false), 9);
    }

    private static void aggregatesOfAggregates() {
        due.says("Promise 8: STATE (there is an aggregate in it)");
        QueryRunner x = new QueryRunner();
        int value = x.column(0, 0);
        int sum = x.aggregate(2, value, false);
        int first = x.op(0, sum, value);
        int second = x.op(0, value, sum);
        int deep = x.op(1, value, x.op(2, first, value));
        int count = x.aggregate(0, value, false);
        for (int kind = 0; kind <= 5; kind++) {
            for (int e : new int[] {sum, first, second, deep, count}) {
                due.is("kind " + kind + " of " + e, x.aggregate(kind, e, false), STATE);
            }
        }
        due.is("an aggregate beside it", x.aggregate(5, value, false), count + 1);
    }

    private static void eightAggregates() {
        due.says("Promise 8: ROOM (also when there are 8)");
        QueryRunner x = new QueryRunner();
        int value = x.column(0, 0);
        for (int i = 0; i < 8; i++) {
            due.is("aggregate " + i, x.aggregate(i % 6, value, i > 3), 1 + i);
        }
        for (int kind = 0; kind <= 5; kind++) {
            due.is("a ninth, kind " + kind, x.aggregate(kind, value, false), ROOM);
            due.is("a ninth, distinct, kind " + kind, x.aggregate(kind, value, true), ROOM);
        }
        due.is("other expressions have room", x.op(0, 8, 8), 9);
    }

    private static void sixtyPartsOfAnAggregate() {
        due.says("Promise 8: put together of 60");
        QueryRunner x = Given.numbers(2);
        int most = value(x, 59);
        int sum = x.aggregate(2, most, false);
        due.is("of 59 parts", sum, most + 1);
        x.item(sum);
        due.answers("thirty twos", x, "60");
    }
}
