/** Promises 9 to 14: source, condition, group, item, order, shape, and what they refuse. */
public final class PartsTest {
    private static final Due due = new Due("PartsTest");
    private static final int VALUE = 0;
    private static final int TRUTH = 1;

    public static void main(String[] args) {
        sources();
        conditions();
        groups();
        items();
        orders();
        shapes();
        due.end();
    }

    // Expression 0 is a value, 1 a truth; the table has the rows 1 and 2.
    private static QueryRunner start() {
        QueryRunner x = new QueryRunner();
        x.table(1);
        x.insert(0, 1, 0, 0, 0, 0);
        x.insert(0, 2, 0, 0, 0, 0);
        x.column(0, 0);
        x.op(5, VALUE, VALUE);
        return x;
    }

    private static void sources() {
        QueryRunner x = start();
        due.is("no such table", x.source(1, 9, TRUTH), QueryRunner.UNKNOWN);
        due.is("table -1", x.source(-1, 0, -1), QueryRunner.UNKNOWN);
        due.is("no such ON", x.source(0, 9, 2), QueryRunner.UNKNOWN);
        due.is("ON -2", x.source(0, 0, -2), QueryRunner.UNKNOWN);
        due.is("how -1", x.source(0, -1, -1), QueryRunner.OUTSIDE);
        due.is("how 3", x.source(0, 3, VALUE), QueryRunner.OUTSIDE);
        due.is("first one with how 1", x.source(0, 1, TRUTH), QueryRunner.STATE);
        due.is("first one with how 2", x.source(0, 2, TRUTH), QueryRunner.STATE);
        due.is("first one with an ON", x.source(0, 0, TRUTH), QueryRunner.STATE);
        due.is("first", x.source(0, 0, -1), 1);
        due.is("how 0 with an ON", x.source(0, 0, TRUTH), QueryRunner.STATE);
        due.is("how 1 without", x.source(0, 1, -1), QueryRunner.STATE);
        due.is("how 2 without", x.source(0, 2, -1), QueryRunner.STATE);
        due.is("how 1 with a value", x.source(0, 1, VALUE), QueryRunner.STATE);
        due.is("how 2 with a value", x.source(0, 2, VALUE), QueryRunner.STATE);
        due.is("second", x.source(0, 1, TRUTH), 2);
        due.is("third", x.source(0, 2, TRUTH), 3);
        due.is("fourth", x.source(0, 0, -1), QueryRunner.ROOM);
        due.is("fourth, state", x.source(0, 1, -1), QueryRunner.STATE);
        x.item(VALUE);
        due.answers("three sources", x, "1", "1", "1", "1", "2", "2", "2", "2");
    }

    private static void conditions() {
        QueryRunner x = start();
        due.is("no such expression", x.condition(2, 2), QueryRunner.UNKNOWN);
        due.is("what -1", x.condition(-1, VALUE), QueryRunner.OUTSIDE);
        due.is("what 2", x.condition(2, TRUTH), QueryRunner.OUTSIDE);
        due.is("where, a value", x.condition(0, VALUE), QueryRunner.STATE);
        due.is("having, a value", x.condition(1, VALUE), QueryRunner.STATE);
        x.source(0, 0, -1);
        x.item(VALUE);
        due.answers("none of them counts", x, "1", "2");
        int never = x.op(7, VALUE, VALUE);
        due.is("where", x.condition(0, never), 1);
        due.answers("where", x);
        due.is("another where", x.condition(0, x.op(5, VALUE, x.constant(2, false))), 1);
        due.answers("another where", x, "2");
        x.group(VALUE);
        due.is("having", x.condition(1, never), 1);
        due.answers("having", x);
        due.is("another having", x.condition(1, TRUTH), 1);
        due.answers("another having", x, "2");
    }

    private static void groups() {
        QueryRunner x = start();
        due.is("no such expression", x.group(2), QueryRunner.UNKNOWN);
        due.is("expression -1", x.group(-1), QueryRunner.UNKNOWN);
        due.is("a truth", x.group(TRUTH), QueryRunner.STATE);
        for (int i = 1; i <= 4; i++) {
            due.is("group " + i, x.group(VALUE), i);
        }
        due.is("a fifth", x.group(VALUE), QueryRunner.ROOM);
        due.is("a fifth, a truth", x.group(TRUTH), QueryRunner.STATE);
        x = start();
        due.is("an aggregate is a matter of the run", x.group(x.aggregate(0, VALUE, false)), 1);
    }

    private static void items() {
        QueryRunner x = start();
        due.is("no such expression", x.item(2), QueryRunner.UNKNOWN);
        due.is("expression -1", x.item(-1), QueryRunner.UNKNOWN);
        due.is("a truth", x.item(TRUTH), QueryRunner.STATE);
        for (int i = 0; i < 6; i++) {
            due.is("item " + i, x.item(VALUE), i);
        }
        due.is("a seventh", x.item(VALUE), QueryRunner.ROOM);
        due.is("a seventh, a truth", x.item(TRUTH), QueryRunner.STATE);
        x.source(0, 0, -1);
        due.answers("six items", x, "1 1 1 1 1 1", "2 2 2 2 2 2");
    }

    private static void orders() {
        QueryRunner x = start();
        due.is("no item yet", x.order(0, false), QueryRunner.UNKNOWN);
        x.item(VALUE);
        due.is("item 1", x.order(1, false), QueryRunner.UNKNOWN);
        due.is("item -1", x.order(-1, false), QueryRunner.UNKNOWN);
        for (int i = 1; i <= 4; i++) {
            due.is("order " + i, x.order(0, i == 1), i);
        }
        due.is("a fifth", x.order(0, false), QueryRunner.ROOM);
        due.is("a fifth, of no item", x.order(1, false), QueryRunner.UNKNOWN);
        x.source(0, 0, -1);
        due.answers("the first first", x, "2", "1");
    }

    private static void shapes() {
        QueryRunner x = start();
        x.source(0, 0, -1);
        x.item(VALUE);
        due.is("keep -1", x.shape(true, -1, 0), QueryRunner.OUTSIDE);
        due.is("keep 1001", x.shape(true, 1001, 0), QueryRunner.OUTSIDE);
        due.is("skip -1", x.shape(true, 0, -1), QueryRunner.OUTSIDE);
        due.is("skip 1001", x.shape(true, 0, 1001), QueryRunner.OUTSIDE);
        due.is("least int", x.shape(true, Integer.MIN_VALUE, Integer.MIN_VALUE), QueryRunner.OUTSIDE);
        due.answers("what was refused changes nothing", x, "1", "2");
        due.is("most", x.shape(false, 1000, 1000), 1);
        due.answers("all skipped", x);
        due.is("least", x.shape(false, 0, 0), 1);
        due.answers("none kept", x);
        due.is("one skipped", x.shape(false, 1000, 1), 1);
        due.answers("one skipped", x, "2");
        due.is("one kept", x.shape(false, 1, 0), 1);
        due.answers("one kept", x, "1");
    }
}
