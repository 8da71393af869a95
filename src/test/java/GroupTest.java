/** Promise 15: groups, aggregates, HAVING, and what comes first in a grouped query. */
public final class GroupTest {
    private static final Due due = new Due("GroupTest");
    private static final long TRILLION = 1000000000000L;
    private static final long NULL = Given.NULL;

    public static void main(String[] args) {
        aggregatesOfAll();
        aggregatesOfNone();
        aggregatesOfNulls();
        aggregatesOfDistinct();
        eightAggregates();
        averagesAreCut();
        groupsInOrderOfFirstRows();
        severalGroups();
        groupsOfNoRows();
        partsLikeGroups();
        having();
        havingMakesOneGroup();
        countLooksAtNothing();
        sumsOnTheirWay();
        sumsOfDistinct();
        whatIsOfAggregatesComesRowByRow();
        aggregatesByTheirNumbers();
        unusedAggregates();
        sumsGoWrongAtTheirRow();
        sumsGoWrongInTheirTurn();
        sumsThatNothingComesTo();
        sumsOfLaterRuns();
        manyGroups();
        due.end();
    }

    private static QueryRunner pairs(long... values) {
        return Given.pairs(values);
    }

    private static void allAggregates(QueryRunner x, int e, boolean distinct) {
        for (int kind = 0; kind <= 5; kind++) {
            x.item(x.aggregate(kind, e, distinct));
        }
    }

    private static void aggregatesOfAll() {
        QueryRunner x = pairs(1, 4, 2, NULL, 3, -2, 4, 4, 5, 9);
        allAggregates(x, 1, false);
        due.answers("all rows are one", x, "5 4 15 -2 9 3");
        x.condition(0, x.op(8, 0, x.constant(3, false)));
        due.answers("of those that WHERE leaves", x, "3 2 2 -2 4 1");
    }

    private static void aggregatesOfNone() {
        QueryRunner x = pairs();
        allAggregates(x, 1, false);
        due.answers("of no rows", x, "0 0 - - - -");
        QueryRunner y = pairs(1, 2);
        allAggregates(y, 1, true);
        y.condition(0, y.op(6, 0, 0));
        due.answers("of no rows behind WHERE", y, "0 0 - - - -");
    }

    private static void aggregatesOfNulls() {
        QueryRunner x = pairs(1, NULL, 2, NULL);
        allAggregates(x, 1, true);
        due.answers("of NULLs alone", x, "2 0 - - - -");
    }

    private static void aggregatesOfDistinct() {
        QueryRunner x = pairs(1, 4, 2, NULL, 3, -2, 4, 4, 5, 9, 6, 4, 7, NULL, 8, 9);
        allAggregates(x, 1, true);
        due.answers("equal values once", x, "8 3 11 -2 9 3");
    }

    private static void eightAggregates() {
        QueryRunner x = pairs(1, 10, 2, NULL, 1, 30, 1, 30);
        int hundred = x.constant(100, false);
        x.group(0);
        int[] e = new int[8];
        for (int i = 0; i < 8; i++) {
            e[i] = x.aggregate(i < 6 ? i : i - 5, 1, i >= 6);
        }
        for (int i = 0; i < 6; i++) {
            x.item(i < 2 ? x.op(0, x.op(2, e[i + 6], hundred), e[i]) : e[i]);
        }
        due.answers("eight at once", x, "203 4003 70 10 30 23", "1 - - - - -");
        x.condition(1, x.op(12, e[7], 0));
        due.answers("the last alone in having", x, "1 - - - - -");
    }

    private static void averagesAreCut() {
        QueryRunner x = pairs(1, 7, 2, 0, 1, 1, 2, 0);
        x.item(x.aggregate(5, 1, false));
        x.item(x.aggregate(5, x.op(1, x.constant(0, false), 1), false));
        due.answers("towards 0", x, "2 -2");
        QueryRunner y = pairs(1, 7, 2, 0);
        y.item(y.aggregate(5, 1, false));
        y.item(y.aggregate(5, y.op(1, y.constant(0, false), 1), false));
        due.answers("halves towards 0", y, "3 -3");
    }

    private static void groupsInOrderOfFirstRows() {
        QueryRunner x = pairs(3, 1, NULL, 2, 1, 3, 3, 4, NULL, 5, 0, 6, 1, 7);
        x.group(0);
        x.item(0);
        x.item(x.aggregate(2, 1, false));
        x.item(x.aggregate(0, 1, false));
        due.answers("groups", x, "3 5 2", "- 7 2", "1 10 2", "0 6 1");
    }

    private static void severalGroups() {
        QueryRunner x = pairs(1, 1, 1, 2, 2, 1, 1, 1, NULL, 1, 1, NULL, NULL, 1);
        x.group(0);
        x.group(1);
        x.item(1);
        x.item(0);
        x.item(x.aggregate(0, 0, false));
        due.answers("two groups", x, "1 1 2", "2 1 1", "1 2 1", "1 - 2", "- 1 1");
        x.group(x.op(0, 0, 1));
        x.group(x.constant(7, false));
        due.answers("four groups", x, "1 1 2", "2 1 1", "1 2 1", "1 - 2", "- 1 1");
        QueryRunner y = pairs(0, NULL, NULL, 0);
        y.group(0);
        y.group(1);
        y.item(y.aggregate(0, 0, false));
        due.answers("which of them is NULL matters", y, "1", "1");
        QueryRunner z = pairs(5, 1, 6, 1);
        z.group(1);
        z.item(1);
        due.answers("groups without aggregates", z, "1");
    }

    private static void groupsOfNoRows() {
        QueryRunner x = pairs();
        x.group(0);
        x.item(x.aggregate(0, 0, false));
        due.answers("no rows, no groups", x);
    }

    private static void partsLikeGroups() {
        QueryRunner x = pairs(1, 9, 2, 9, 1, 8);
        int sum = x.op(0, 0, x.constant(1, false));
        x.group(sum);
        int again = x.op(0, x.column(0, 0), x.constant(1, false));
        x.item(x.op(2, again, x.aggregate(0, 0, false)));
        due.answers("put together just like a group", x, "4", "3");
        x.item(x.op(0, x.constant(1, false), 0));
        due.ends("another way round", x, -13);
        QueryRunner y = pairs(1, 9, 2, 9, 1, 8);
        y.group(y.op(0, 0, y.constant(1, false)));
        y.item(y.op(0, 0, y.constant(2, false)));
        due.ends("another constant", y, -13);
        QueryRunner z = pairs(1, 9, 2, 9, 1, 8);
        z.group(z.op(0, 0, z.constant(1, false)));
        z.item(z.op(1, 0, z.constant(1, false)));
        due.ends("another operator", z, -13);
        QueryRunner n = pairs(1, 9, 2, 9, 1, 8);
        n.group(n.op(0, 0, n.constant(3, true)));
        n.item(n.op(0, 0, n.constant(4, true)));
        due.answers("NULL is NULL", n, "-");
        n.item(n.op(0, 0, n.constant(0, false)));
        due.ends("NULL is not 0", n, -13);
    }

    private static void having() {
        QueryRunner x = pairs(1, 5, 2, NULL, 3, 1, 1, 6);
        x.group(0);
        int sum = x.aggregate(2, 1, false);
        x.item(0);
        x.item(sum);
        x.condition(1, x.op(7, x.constant(0, false), sum));
        due.answers("TRUE alone stays", x, "1 11", "3 1");
        x.condition(1, x.op(5, 0, x.constant(2, false)));
        due.answers("HAVING of a group", x, "2 -");
        x.condition(1, x.op(5, 1, 1));
        due.ends("HAVING of a column that is no group", x, -13);
        x.condition(1, x.op(12, x.op(3, 0, x.constant(0, false)), 0));
        due.ends("HAVING goes wrong", x, -20);
    }

    private static void havingMakesOneGroup() {
        QueryRunner x = pairs(1, 5, 2, 6);
        int one = x.constant(1, false);
        x.item(one);
        due.answers("not grouped", x, "1", "1");
        x.condition(1, x.op(5, one, one));
        due.answers("grouped by its having", x, "1");
        x.condition(1, x.op(5, one, x.aggregate(0, 0, false)));
        due.answers("having of an aggregate", x);
        x.item(0);
        due.ends("a column in a query that is grouped by its having", x, -13);
    }

    private static void countLooksAtNothing() {
        QueryRunner x = pairs(1, 0, 2, 0);
        x.item(x.aggregate(0, x.op(3, 0, 1), true));
        due.answers("how many rows", x, "2");
        QueryRunner y = pairs(1, 0, 2, 0);
        y.item(y.aggregate(1, y.op(3, 0, 1), false));
        due.ends("how many that are not NULL", y, -20);
        QueryRunner z = pairs(1, 0);
        z.item(z.aggregate(0, z.column(1, 0), false));
        due.ends("all that it is put together of", z, -11);
    }

    private static void sumsOnTheirWay() {
        for (int kind : new int[] {2, 5}) {
            QueryRunner x = pairs(1, TRILLION, 2, 1, 3, -TRILLION);
            int thousand = x.constant(1000, false);
            x.item(x.aggregate(kind, x.op(2, 1, thousand), false));
            due.ends("above on its way, aggregate " + kind, x, -21);
            QueryRunner y = pairs(1, TRILLION, 2, -TRILLION, 3, 1);
            y.item(y.aggregate(kind, y.op(2, 1, y.constant(1000, false)), false));
            due.answers("at the limit on its way, aggregate " + kind, y, kind == 2 ? "1000" : "333");
            QueryRunner z = pairs(1, -TRILLION, 2, -1, 3, TRILLION);
            z.item(z.aggregate(kind, z.op(2, 1, z.constant(1000, false)), false));
            due.ends("below on its way, aggregate " + kind, z, -21);
            QueryRunner w = pairs(1, -TRILLION, 2, TRILLION, 3, -1);
            w.item(w.aggregate(kind, w.op(2, 1, w.constant(1000, false)), false));
            due.answers("at the lower limit on its way, aggregate " + kind, w, kind == 2 ? "-1000" : "-333");
        }
        QueryRunner x = pairs(1, TRILLION, 2, TRILLION);
        int huge = x.op(2, 1, x.constant(1000, false));
        x.item(x.aggregate(1, huge, false));
        x.item(x.aggregate(3, huge, false));
        x.item(x.aggregate(4, huge, false));
        due.answers("no sum, nothing wrong", x, "2 1000000000000000 1000000000000000");
    }

    private static void sumsOfDistinct() {
        QueryRunner x = pairs(1, TRILLION, 2, TRILLION);
        int huge = x.op(2, 1, x.constant(1000, false));
        x.item(x.aggregate(2, huge, true));
        x.item(x.aggregate(5, huge, true));
        due.answers("once", x, "1000000000000000 1000000000000000");
        x.item(x.aggregate(2, huge, false));
        due.ends("twice", x, -21);
    }

    private static void whatIsOfAggregatesComesRowByRow() {
        QueryRunner x = pairs(0, TRILLION, 1, 1);
        int huge = x.op(2, 1, x.constant(1001, false));
        int divided = x.op(3, 1, 0);
        x.item(x.aggregate(2, huge, false));
        x.group(divided);
        due.ends("groups before aggregates", x, -20);
        QueryRunner y = pairs(1, TRILLION, 0, 1);
        y.item(y.aggregate(2, y.op(2, 1, y.constant(1001, false)), false));
        y.group(y.op(3, 1, 0));
        due.ends("the first row's aggregates before the second row's groups", y, -21);
        QueryRunner z = pairs(1, 1, 1, 0);
        z.group(0);
        z.item(z.op(3, z.constant(1, false), z.constant(0, false)));
        z.item(z.aggregate(2, z.op(2, z.op(1, z.constant(1, false), 1),
                z.op(2, z.constant(TRILLION, false), z.constant(1001, false))), false));
        due.ends("all rows before the first group's items", z, -21);
    }

    private static void aggregatesByTheirNumbers() {
        QueryRunner x = pairs(0, TRILLION);
        int ofHuge = x.aggregate(4, x.op(2, 1, x.constant(1001, false)), false);
        int ofDivided = x.aggregate(4, x.op(3, 1, 0), false);
        x.item(ofDivided);
        x.item(ofHuge);
        due.ends("by their numbers, not by items", x, -21);
        QueryRunner y = pairs(0, TRILLION);
        int divided = y.aggregate(4, y.op(3, 1, 0), false);
        int huge = y.aggregate(4, y.op(2, 1, y.constant(1001, false)), false);
        y.item(huge);
        y.condition(1, y.op(12, divided, 0));
        due.ends("those of having too", y, -20);
    }

    private static void unusedAggregates() {
        QueryRunner x = pairs(0, 5);
        x.aggregate(2, x.op(3, 1, 0), false);
        x.item(x.aggregate(2, 1, false));
        x.item(1);
        due.ends("a column beside an aggregate", x, -13);
        QueryRunner y = pairs(0, 5);
        y.aggregate(2, y.op(3, 1, 0), false);
        y.item(y.aggregate(2, 1, false));
        due.answers("an aggregate that is not in use", y, "5");
        QueryRunner z = pairs(0, 5);
        z.aggregate(2, z.column(2, 3), false);
        z.item(1);
        due.answers("not in use, not grouped", z, "5");
    }

    // A thousand times the second column, summed; the second row takes the sum too far.
    private static int hugeSum(QueryRunner x, int kind) {
        return x.aggregate(kind, x.op(2, 1, x.constant(1000, false)), false);
    }

    private static void sumsGoWrongAtTheirRow() {
        for (int kind : new int[] {2, 5}) {
            for (long sign : new long[] {1, -1}) {
                String told = ", aggregate " + kind + ", sign " + sign;
                QueryRunner x = pairs(1, sign, 1, sign * TRILLION, 0, 5);
                x.item(hugeSum(x, kind));
                int divided = x.op(3, 1, 0);
                x.item(x.aggregate(4, divided, false));
                due.ends("before a later row's aggregate" + told, x, -21);
                x.condition(0, x.op(6, divided, x.constant(7, false)));
                due.ends("before a later row's WHERE" + told, x, -21);
                x.group(x.op(4, 0, 0));
                due.ends("before a later row's group" + told, x, -21);
            }
        }
        QueryRunner y = pairs(1, 1, 1, TRILLION, 0, 5);
        int one = y.constant(1, false);
        y.source(0, 1, y.op(8, y.op(3, one, 0), one));
        y.condition(0, y.op(5, y.column(1, 1), one));
        y.item(hugeSum(y, 2));
        due.ends("before a later row's ON", y, -21);
        QueryRunner z = pairs(1, 1, 0, TRILLION, 1, 5);
        z.item(hugeSum(z, 2));
        z.condition(0, z.op(8, z.op(3, 1, 0), z.constant(TRILLION, false)));
        due.ends("behind its own row's WHERE", z, -20);
    }

    private static void sumsGoWrongInTheirTurn() {
        QueryRunner x = pairs(1, 1, 0, TRILLION);
        x.item(hugeSum(x, 2));
        x.item(x.aggregate(4, x.op(3, 1, 0), false));
        due.ends("before what the next aggregate is of", x, -21);
        QueryRunner y = pairs(1, 1, 0, TRILLION);
        int divided = y.aggregate(4, y.op(3, 1, 0), false);
        y.item(hugeSum(y, 2));
        y.item(divided);
        due.ends("behind what an earlier aggregate is of", y, -20);
        QueryRunner z = pairs(1, 1, 0, TRILLION);
        z.item(hugeSum(z, 2));
        z.group(z.op(4, z.constant(0, false), z.op(0, 0, 0)));
        due.ends("behind its own row's groups", z, -20);
        QueryRunner w = pairs(1, 1, 1, TRILLION);
        w.item(w.op(3, w.constant(1, false), w.constant(0, false)));
        w.item(hugeSum(w, 2));
        due.ends("before all items", w, -21);
    }

    private static void sumsThatNothingComesTo() {
        QueryRunner x = pairs(1, 1, 1, TRILLION, 2, 5);
        int sum = hugeSum(x, 2);
        int two = x.constant(2, false);
        x.group(0);
        x.item(0);
        due.answers("a sum that is not in use", x, "1", "2");
        x.condition(1, x.op(5, 0, two));
        due.answers("nor in having", x, "2");
        x.condition(1, x.op(9, x.op(5, 0, two), x.op(7, two, sum)));
        due.ends("a sum that HAVING does not come to", x, -21);
        x.condition(1, x.op(5, 0, two));
        x.item(sum);
        due.ends("a sum of a group that HAVING leaves out", x, -21);
        x.condition(0, x.op(6, 1, x.constant(TRILLION, false)));
        due.answers("without the row that takes it too far", x, "2 5000");
    }

    private static void sumsOfLaterRuns() {
        QueryRunner x = pairs(1, 5, 2, TRILLION, 1, 7, 2, NULL);
        x.group(0);
        int huge = x.op(2, 1, x.constant(1000, false));
        x.item(x.aggregate(2, huge, false));
        x.item(x.aggregate(1, huge, true));
        for (int i = 0; i < 3; i++) {
            due.answers("nothing stays of an earlier run", x, "12000 2", "1000000000000000 1");
        }
        x.insert(0, 2, 1, 0, 0, 0);
        due.ends("too far", x, -21);
        x.condition(0, x.op(5, 0, x.constant(1, false)));
        due.answers("nothing stays of a run that went wrong", x, "12000 2");
    }

    private static void manyGroups() {
        QueryRunner x = Given.manyRows();
        int code = Given.CODE;
        for (int i = 0; i < 3; i++) {
            x.group(i);
        }
        x.item(code);
        due.ends("the 201st group", x, -15);
        x.condition(1, x.op(7, code, x.constant(200, false)));
        due.is("200 of 512 groups", x.run(), 200);
        due.is("the last", x.cell(199, 0), 199);
        x.condition(1, x.op(7, x.constant(311, false), code));
        due.is("the last 200 of 512 groups", x.run(), 200);
        due.is("the first of them", x.cell(0, 0), 312);
        x.condition(1, x.op(8, code, x.constant(200, false)));
        x.shape(true, 1, 0);
        due.ends("201, before any is left out", x, -15);
        // The items of the 201st are not worked out, those of the 200th are.
        x.item(x.op(3, code, x.op(1, code, x.constant(200, false))));
        due.ends("the 201st group's items", x, -15);
        x.item(x.op(3, code, x.op(1, code, x.constant(199, false))));
        due.ends("the 200th group's items", x, -20);
    }
}
