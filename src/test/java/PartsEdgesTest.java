/** Promises 9 to 14: a test for each sentence that names an edge. */
public final class PartsEdgesTest {
    private static final int UNKNOWN = QueryRunner.UNKNOWN;
    private static final int OUTSIDE = QueryRunner.OUTSIDE;
    private static final int STATE = QueryRunner.STATE;
    private static final int ROOM = QueryRunner.ROOM;
    private static final int LEAST_INT = Integer.MIN_VALUE;
    private static final int GREATEST_INT = Integer.MAX_VALUE;
    // What start() makes: values 0, 1, 4 and truths 2, 3.
    private static final int VALUE = 0;
    private static final int OTHER = 1;
    private static final int TRUTH = 2;
    private static final int UNTRUTH = 3;
    private static final int SUM = 4;
    private static final Due due = new Due("PartsEdgesTest");

    public static void main(String[] args) {
        sourcesOfUnknown();
        sourcesHow();
        firstSource();
        freeSourcesWithOn();
        joinedSourcesWithoutOn();
        onsThatAreNoTruth();
        threeSources();
        conditionsOfUnknown();
        conditionsWhat();
        conditionsOfValues();
        anotherCondition();
        groupsRefused();
        fourGroups();
        itemsRefused();
        sixItems();
        ordersRefused();
        fourOrders();
        keptWithin();
        skippedWithin();
        shapesRefused();
        anotherShape();
        due.end();
    }

    private static QueryRunner start() {
        QueryRunner x = new QueryRunner();
        x.table(2);
        x.insert(0, 1, 5, 0, 0, 0);
        x.insert(0, 2, 5, 0, 0, 0);
        x.column(0, 0);
        x.column(0, 1);
        x.op(5, VALUE, VALUE);
        x.op(6, VALUE, VALUE);
        x.aggregate(2, VALUE, false);
        return x;
    }

    private static QueryRunner started() {
        QueryRunner x = start();
        x.source(0, 0, -1);
        x.item(VALUE);
        return x;
    }

    private static void sourcesOfUnknown() {
        due.says("Promise 9: UNKNOWN (table, ON)");
        QueryRunner x = start();
        x.table(1);
        for (int table : new int[] {LEAST_INT, -1, 2, 6, GREATEST_INT}) {
            due.is("table " + table, x.source(table, 0, -1), UNKNOWN);
        }
        due.is("the last table", x.source(1, 0, -1), 1);
        for (int on : new int[] {LEAST_INT, -2, 5, 60, GREATEST_INT}) {
            for (int how = 0; how <= 2; how++) {
                due.is("how " + how + ", ON " + on, x.source(0, how, on), UNKNOWN);
            }
        }
        int last = x.op(11, TRUTH, 0);
        due.is("the last expression", x.source(0, 1, last), 2);
        due.is("the first table", x.source(0, 0, -1), 3);
    }

    private static void sourcesHow() {
        due.says("Promise 9: OUTSIDE (how)");
        QueryRunner x = start();
        x.source(0, 0, -1);
        for (int how : new int[] {LEAST_INT, -1, 3, GREATEST_INT}) {
            due.is("how " + how, x.source(0, how, -1), OUTSIDE);
            due.is("how " + how + " with ON", x.source(0, how, TRUTH), OUTSIDE);
        }
        due.is("how 2", x.source(0, 2, TRUTH), 2);
        due.is("how 0", x.source(0, 0, -1), 3);
    }

    private static void firstSource() {
        due.says("Promise 9: STATE (the first one with another how than 0)");
        QueryRunner x = start();
        due.is("how 1", x.source(0, 1, TRUTH), STATE);
        due.is("how 2", x.source(0, 2, TRUTH), STATE);
        due.is("how 1 without ON", x.source(0, 1, -1), STATE);
        due.is("how 0", x.source(0, 0, -1), 1);
        due.is("the second with how 1", x.source(0, 1, TRUTH), 2);
        due.is("the third with how 2", x.source(0, 2, TRUTH), 3);
    }

    private static void freeSourcesWithOn() {
        due.says("Promise 9: STATE (how 0 with an ON other than -1)");
        QueryRunner x = start();
        due.is("the first with a truth", x.source(0, 0, TRUTH), STATE);
        due.is("the first with a value", x.source(0, 0, VALUE), STATE);
        x.source(0, 0, -1);
        due.is("the second with a truth", x.source(0, 0, TRUTH), STATE);
        due.is("the second with a value", x.source(0, 0, VALUE), STATE);
        due.is("the second with -1", x.source(0, 0, -1), 2);
        due.is("the third with a truth", x.source(0, 0, TRUTH), STATE);
        due.is("the third with -1", x.source(0, 0, -1), 3);
    }

    private static void joinedSourcesWithoutOn() {
        due.says("Promise 9: STATE (the others with -1)");
        QueryRunner x = start();
        x.source(0, 0, -1);
        due.is("how 1", x.source(0, 1, -1), STATE);
        due.is("how 2", x.source(0, 2, -1), STATE);
        due.is("how 1 with an ON", x.source(0, 1, TRUTH), 2);
        due.is("how 2, the third", x.source(0, 2, -1), STATE);
        due.is("how 2 with an ON", x.source(0, 2, TRUTH), 3);
    }

    private static void onsThatAreNoTruth() {
        due.says("Promise 9: STATE (an ON that is no truth)");
        QueryRunner x = start();
        x.source(0, 0, -1);
        for (int how = 1; how <= 2; how++) {
            for (int on : new int[] {VALUE, OTHER, SUM}) {
                due.is("how " + how + ", ON " + on, x.source(0, how, on), STATE);
            }
        }
        due.is("still one", x.source(0, 1, UNTRUTH), 2);
    }

    private static void threeSources() {
        due.says("Promise 9: ROOM (SOURCES 0 .. 2)");
        QueryRunner x = start();
        due.is("the first", x.source(0, 0, -1), 1);
        due.is("the second", x.source(0, 2, TRUTH), 2);
        due.is("the third", x.source(0, 1, TRUTH), 3);
        due.is("a fourth, how 0", x.source(0, 0, -1), ROOM);
        due.is("a fourth, how 1", x.source(0, 1, TRUTH), ROOM);
        due.is("a fourth, how 2", x.source(0, 2, TRUTH), ROOM);
        x.item(x.column(2, 0));
        due.answers("three", x, "1", "2", "1", "2", "1", "2", "1", "2");
    }

    private static void conditionsOfUnknown() {
        due.says("Promise 10: UNKNOWN");
        QueryRunner x = started();
        for (int what = 0; what <= 1; what++) {
            for (int e : new int[] {LEAST_INT, -1, 5, 60, GREATEST_INT}) {
                due.is("what " + what + ", " + e, x.condition(what, e), UNKNOWN);
            }
        }
        due.answers("none of them counts", x, "1", "2");
        due.is("the last that there is", x.condition(0, x.op(11, TRUTH, 0)), 1);
    }

    private static void conditionsWhat() {
        due.says("Promise 10: OUTSIDE (what)");
        QueryRunner x = started();
        for (int what : new int[] {LEAST_INT, -1, 2, GREATEST_INT}) {
            due.is("what " + what, x.condition(what, UNTRUTH), OUTSIDE);
            due.is("what " + what + " of a value", x.condition(what, VALUE), OUTSIDE);
        }
        due.answers("none of them counts", x, "1", "2");
    }

    private static void conditionsOfValues() {
        due.says("Promise 10: STATE (a value)");
        QueryRunner x = started();
        for (int e : new int[] {VALUE, OTHER, SUM}) {
            due.is("where of " + e, x.condition(0, e), STATE);
            due.is("having of " + e, x.condition(1, e), STATE);
        }
        due.answers("none of them counts", x, "1", "2");
    }

    private static void anotherCondition() {
        due.says("Promise 10: the WHERE (what = 0), the HAVING (1) is another one: 1");
        QueryRunner x = started();
        for (int i = 0; i < 10; i++) {
            due.is("where, again and again", x.condition(0, i % 2 == 0 ? UNTRUTH : TRUTH), 1);
            due.is("rows", x.run(), i % 2 == 0 ? 0 : 2);
        }
        x.group(VALUE);
        for (int i = 0; i < 10; i++) {
            due.is("having, again and again", x.condition(1, i % 2 == 0 ? UNTRUTH : TRUTH), 1);
            due.is("groups", x.run(), i % 2 == 0 ? 0 : 2);
        }
        x.condition(0, UNTRUTH);
        due.is("one is not the other", x.run(), 0);
    }

    private static void groupsRefused() {
        due.says("Promise 11: UNKNOWN, STATE (a truth)");
        QueryRunner x = started();
        for (int e : new int[] {LEAST_INT, -1, 5, 60, GREATEST_INT}) {
            due.is("group " + e, x.group(e), UNKNOWN);
        }
        due.is("a truth", x.group(TRUTH), STATE);
        due.is("another truth", x.group(x.op(12, VALUE, 0)), STATE);
        x.item(OTHER);
        due.answers("not grouped", x, "1 5", "2 5");
        due.is("a value", x.group(OTHER), 1);
        due.is("the last that there is", x.group(x.constant(1, false)), 2);
    }

    private static void fourGroups() {
        due.says("Promise 11: ROOM (4)");
        QueryRunner x = start();
        x.source(0, 0, -1);
        int five = x.constant(5, false);
        due.is("the first", x.group(OTHER), 1);
        due.is("the second", x.group(five), 2);
        due.is("the third, the same again", x.group(five), 3);
        x.item(OTHER);
        due.answers("all rows together", x, "5");
        due.is("the fourth", x.group(VALUE), 4);
        due.answers("the fourth counts", x, "5", "5");
        due.is("a fifth", x.group(x.aggregate(0, VALUE, false)), ROOM);
        due.answers("the fifth does not", x, "5", "5");
    }

    private static void itemsRefused() {
        due.says("Promise 12: UNKNOWN, STATE (a truth)");
        QueryRunner x = start();
        x.source(0, 0, -1);
        for (int e : new int[] {LEAST_INT, -1, 5, 60, GREATEST_INT}) {
            due.is("item " + e, x.item(e), UNKNOWN);
        }
        due.is("a truth", x.item(TRUTH), STATE);
        due.is("another truth", x.item(x.op(9, TRUTH, TRUTH)), STATE);
        due.is("there is no item", x.run(), -1);
        due.is("the first is 0", x.item(VALUE), 0);
        due.is("the last that there is", x.item(x.constant(1, false)), 1);
        due.answers("two items", x, "1 1", "2 1");
    }

    private static void sixItems() {
        due.says("Promise 12: ROOM (6); ITEMS (1 .. 6)");
        QueryRunner x = start();
        x.source(0, 0, -1);
        for (int i = 0; i < 6; i++) {
            due.is("item " + i, x.item(x.constant(10 + i, false)), i);
        }
        due.is("a seventh", x.item(VALUE), ROOM);
        due.answers("six items, in their order", x, "10 11 12 13 14 15", "10 11 12 13 14 15");
    }

    private static void ordersRefused() {
        due.says("Promise 13: UNKNOWN");
        QueryRunner x = start();
        x.source(0, 0, -1);
        due.is("no item at all", x.order(0, false), UNKNOWN);
        x.item(OTHER);
        x.item(VALUE);
        for (int item : new int[] {LEAST_INT, -1, 2, 6, GREATEST_INT}) {
            due.is("up, item " + item, x.order(item, false), UNKNOWN);
            due.is("down, item " + item, x.order(item, true), UNKNOWN);
        }
        due.answers("none of them counts", x, "5 1", "5 2");
        due.is("the last item", x.order(1, true), 1);
        due.is("the first item", x.order(0, true), 2);
        due.answers("these do", x, "5 2", "5 1");
    }

    private static void fourOrders() {
        due.says("Promise 13: ROOM (4)");
        QueryRunner x = start();
        x.source(0, 0, -1);
        x.item(OTHER);
        x.item(VALUE);
        for (int i = 1; i <= 3; i++) {
            due.is("order " + i, x.order(0, i == 2), i);
        }
        due.answers("all even", x, "5 1", "5 2");
        due.is("the fourth", x.order(1, true), 4);
        due.answers("the fourth counts", x, "5 2", "5 1");
        due.is("a fifth", x.order(1, false), ROOM);
        due.is("a fifth of another item", x.order(0, true), ROOM);
        due.answers("the fifth does not", x, "5 2", "5 1");
        QueryRunner y = start();
        y.source(0, 0, -1);
        y.item(VALUE);
        y.item(VALUE);
        y.item(VALUE);
        y.item(VALUE);
        for (int i = 0; i < 3; i++) {
            y.order(3 - i, true);
        }
        due.is("a fourth order of a fourth item", y.order(0, false), 4);
        due.answers("the first first", y, "2 2 2 2", "1 1 1 1");
    }

    private static void keptWithin() {
        due.says("Promise 14: how many rows are kept (0 .. 1000)");
        QueryRunner x = started();
        for (int keep : new int[] {LEAST_INT, -1, 1001, GREATEST_INT}) {
            due.is("keep " + keep, x.shape(false, keep, 0), OUTSIDE);
            due.is("keep " + keep + ", distinct", x.shape(true, keep, 1), OUTSIDE);
        }
        due.answers("as at first", x, "1", "2");
        due.is("keep 0", x.shape(false, 0, 0), 1);
        due.answers("none", x);
        due.is("an answer all the same", x.answer(1), 1);
        due.is("keep 1", x.shape(false, 1, 0), 1);
        due.answers("one", x, "1");
        due.is("keep 2", x.shape(false, 2, 0), 1);
        due.answers("two", x, "1", "2");
        due.is("keep 1000", x.shape(false, 1000, 0), 1);
        due.answers("all", x, "1", "2");
    }

    private static void skippedWithin() {
        due.says("Promise 14: how many skipped");
        QueryRunner x = started();
        for (int skip : new int[] {LEAST_INT, -1, 1001, GREATEST_INT}) {
            due.is("skip " + skip, x.shape(true, 5, skip), OUTSIDE);
        }
        due.answers("as at first", x, "1", "2");
        due.is("skip 0", x.shape(false, 1000, 0), 1);
        due.answers("none", x, "1", "2");
        due.is("skip 1", x.shape(false, 1000, 1), 1);
        due.answers("one", x, "2");
        due.is("skip 2", x.shape(false, 1000, 2), 1);
        due.answers("just all", x);
        due.is("skip 3", x.shape(false, 1000, 3), 1);
        due.answers("one more than there are", x);
        due.is("skip 1000", x.shape(false, 1000, 1000), 1);
        due.answers("the most", x);
        due.is("an answer all the same", x.answer(1), 1);
    }

    private static void shapesRefused() {
        due.says("Promise 14: a shape that is refused changes nothing, none of the three");
        QueryRunner x = start();
        x.source(0, 0, -1);
        x.item(OTHER);
        int[][] outside = {{-1, 1}, {1001, 1}, {0, -1}, {0, 1001}, {-1, -1}};
        for (int[] pair : outside) {
            due.is("keep " + pair[0] + ", skip " + pair[1], x.shape(true, pair[0], pair[1]), OUTSIDE);
            due.answers("as at first", x, "5", "5");
        }
        x.shape(true, 1, 0);
        for (int[] pair : outside) {
            due.is("keep " + pair[0] + ", skip " + pair[1], x.shape(false, pair[0], pair[1]), OUTSIDE);
            due.answers("as it was told", x, "5");
        }
        x.shape(false, 1, 1);
        due.is("another", x.shape(true, 1001, 0), OUTSIDE);
        due.answers("one skipped, one kept", x, "5");
    }

    private static void anotherShape() {
        due.says("Promise 14: a shape is another one, wholly");
        QueryRunner x = start();
        x.source(0, 0, -1);
        x.source(0, 0, -1);
        x.item(VALUE);
        due.answers("at first", x, "1", "1", "2", "2");
        x.shape(true, 1000, 0);
        due.answers("distinct", x, "1", "2");
        x.shape(false, 2, 1);
        due.answers("no more distinct", x, "1", "2");
        x.shape(false, 1000, 3);
        due.answers("no more two", x, "2");
        x.shape(true, 1, 1);
        due.answers("distinct, then one skipped, one kept", x, "2");
        x.shape(false, 1000, 0);
        due.answers("as at first", x, "1", "1", "2", "2");
    }
}
