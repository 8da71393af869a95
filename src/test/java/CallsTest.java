/** The document's head: an object is used for 512 calls, and the last of them is answered like the first. */
public final class CallsTest {
    private static final int MOST_CALLS = 512;
    private static final Due due = new Due("CallsTest");

    public static void main(String[] args) {
        manyRuns();
        manyGroupedRuns();
        manyQueries();
        manyRefusals();
        manyLooks();
        manyFaults();
        due.end();
    }

    private static void manyRuns() {
        due.says("at most 512 calls: runs");
        QueryRunner x = Given.numbers(3, 1, 2);
        x.item(0);
        x.order(0, false);
        int calls = 8;
        for (; calls < MOST_CALLS - 1; calls++) {
            due.is("run, call " + calls, x.run(), 3);
        }
        due.is("the last call", x.cell(2, 0), 3);
    }

    private static void manyGroupedRuns() {
        due.says("at most 512 calls: runs of groups, of 512 rows");
        QueryRunner x = Given.manyRows();
        x.group(Given.CODE);
        int sum = x.aggregate(2, Given.CODE, true);
        x.item(sum);
        x.condition(1, x.op(5, sum, x.constant(511, false)));
        int calls = 26;
        for (; calls < MOST_CALLS - 1; calls++) {
            due.is("run, call " + calls, x.run(), 1);
        }
        due.is("the last call", x.cell(0, 0), 511);
    }

    private static void manyQueries() {
        due.says("at most 512 calls: one query behind another");
        QueryRunner x = new QueryRunner();
        x.table(1);
        x.insert(0, 4, 0, 0, 0, 0);
        int calls = 2;
        int query = 0;
        while (calls + 6 <= MOST_CALLS) {
            due.is("fresh of query " + query, x.fresh(), query == 0 ? 0 : 1);
            due.is("source", x.source(0, 0, -1), 1);
            due.is("constant", x.constant(query, false), 0);
            due.is("item", x.item(0), 0);
            due.is("run", x.run(), 1);
            due.is("cell", x.cell(0, 0), query);
            calls += 6;
            query++;
        }
    }

    private static void manyRefusals() {
        due.says("at most 512 calls: refusals");
        QueryRunner x = Given.numbers(5);
        x.item(0);
        for (int calls = 4; calls < MOST_CALLS - 2; calls++) {
            int got = calls % 4 == 0 ? x.table(0) : calls % 4 == 1 ? x.constant(Long.MAX_VALUE, false)
                    : calls % 4 == 2 ? x.shape(true, -1, 0) : x.op(13, 0, 0);
            due.is("refused, call " + calls, got, QueryRunner.OUTSIDE);
        }
        due.is("the last call but one", x.run(), 1);
        due.is("the last call", x.cell(0, 0), 5);
    }

    private static void manyLooks() {
        due.says("at most 512 calls: looks at the answer");
        QueryRunner x = Given.numbers(5, Given.NULL);
        x.item(0);
        x.run();
        for (int calls = 6; calls < MOST_CALLS - 2; calls += 3) {
            due.is("cell", x.cell(0, 0), 5);
            due.is("isNull", x.isNull(1, 0), true);
            due.is("answer", x.answer(0), 2);
        }
        due.is("the last call", x.cell(0, 0), 5);
    }

    private static void manyFaults() {
        due.says("at most 512 calls: runs that go wrong");
        QueryRunner x = Given.numbers(1, 0);
        x.item(x.aggregate(2, x.op(3, x.constant(6, false), 0), true));
        int always = Given.always(x);
        int positive = x.op(7, x.constant(0, false), 0);
        for (int calls = 18; calls + 4 <= MOST_CALLS; calls += 4) {
            x.condition(0, always);
            due.is("wrong", x.run(), -20);
            x.condition(0, positive);
            due.is("right", x.run(), 1);
        }
        due.is("the last call", x.cell(0, 0), 6);
    }
}
