import java.util.ArrayList;
import java.util.List;
import java.util.function.Consumer;
import java.util.function.Supplier;
import java.util.function.ToIntFunction;

/** REFUSALS: of several the first one of the document; a call that is refused changes nothing. */
public final class RefusalsTest {
    private static final int UNKNOWN = QueryRunner.UNKNOWN;
    private static final int OUTSIDE = QueryRunner.OUTSIDE;
    private static final int STATE = QueryRunner.STATE;
    private static final int ROOM = QueryRunner.ROOM;
    private static final long BEYOND = Given.MOST_VALUE + 1;
    private static final Due due = new Due("RefusalsTest");

    // What builtObject() and fullObject() make first: values 0, 1 and 2, an aggregate, then a truth.
    private static final int VALUE = 0;
    private static final int SUM = 2;
    private static final int TRUTH = 3;

    private record Refused(String call, int want, ToIntFunction<QueryRunner> made) { }

    public static void main(String[] args) {
        newObject();
        built();
        full();
        withoutRoomForParts();
        withoutRoomForAggregates();
        behindFresh();
        behindAFault();
        due.end();
    }

    private static Refused refused(String call, int want, ToIntFunction<QueryRunner> made) {
        return new Refused(call, want, made);
    }

    /** Each call on an object of its own: its refusal, and that what comes then is as without it. */
    private static void all(Supplier<QueryRunner> start, List<Refused> calls) {
        List<Consumer<Probe>> probes = List.of(RefusalsTest::lookAtAnswer, RefusalsTest::lookAtRun,
                RefusalsTest::lookAtRoom, RefusalsTest::lookAtExpressions, RefusalsTest::lookAtTables);
        for (Consumer<Probe> probe : probes) {
            List<Long> untouched = looks(start.get(), probe);
            for (Refused refused : calls) {
                QueryRunner x = start.get();
                due.is(refused.call, refused.made.applyAsInt(x), refused.want);
                same(refused.call, looks(x, probe), untouched);
            }
            QueryRunner x = start.get();
            for (Refused refused : calls) {
                refused.made.applyAsInt(x);
            }
            same("all of them, one behind the other", looks(x, probe), untouched);
        }
    }

    private static void same(String call, List<Long> got, List<Long> want) {
        due.is(call + ": looks behind it", got.size(), want.size());
        for (int i = 0; i < Math.min(got.size(), want.size()); i++) {
            due.is(call + ": look " + i + " behind it", got.get(i), want.get(i));
        }
    }

    private record Probe(QueryRunner x, List<Long> seen) {
        void sees(long answer) {
            seen.add(answer);
        }
    }

    private static List<Long> looks(QueryRunner x, Consumer<Probe> probe) {
        Probe looks = new Probe(x, new ArrayList<>());
        probe.accept(looks);
        return looks.seen;
    }

    private static void lookAtAnswer(Probe p) {
        p.sees(p.x.answer(0));
        p.sees(p.x.answer(1));
        for (int row = 0; row <= Math.min(8, p.x.answer(0)); row++) {
            for (int i = 0; i <= p.x.answer(1); i++) {
                p.sees(p.x.cell(row, i));
                p.sees(p.x.isNull(row, i) ? 1 : 0);
            }
        }
    }

    private static void lookAtRun(Probe p) {
        p.sees(p.x.run());
        lookAtAnswer(p);
        p.sees(p.x.shape(false, 1000, 0));
        p.sees(p.x.run());
        lookAtAnswer(p);
    }

    // Whatever there is room for is put in till there is none.
    private static void lookAtRoom(Probe p) {
        for (int i = 0; i < 5; i++) {
            p.sees(p.x.group(VALUE));
            p.sees(p.x.source(0, 0, -1));
            p.sees(p.x.order(0, false));
        }
        for (int i = 0; i < 7; i++) {
            p.sees(p.x.item(VALUE));
            p.sees(p.x.table(1));
        }
        for (int i = 0; i < 9; i++) {
            p.sees(p.x.aggregate(0, VALUE, false));
        }
        for (int i = 0; i < 61; i++) {
            p.sees(p.x.constant(i, false));
        }
        p.sees(p.x.fresh());
        p.sees(p.x.fresh());
    }

    // Whether each expression is a value, and what conditions come to.
    private static void lookAtExpressions(Probe p) {
        p.sees(p.x.item(60));
        for (int e = 0; e < 60; e++) {
            p.sees(p.x.op(12, e, 0));
        }
        p.sees(p.x.condition(0, TRUTH));
        p.sees(p.x.condition(1, TRUTH));
        p.sees(p.x.run());
        lookAtAnswer(p);
        p.sees(p.x.fresh());
    }

    private static void lookAtTables(Probe p) {
        for (int table = 0; table < 6; table++) {
            p.x.fresh();
            p.sees(p.x.source(table, 0, -1));
            for (int column = 0; column < 4; column++) {
                p.sees(p.x.item(p.x.column(0, column)));
                p.sees(p.x.run());
                lookAtAnswerShortly(p, column);
            }
            p.sees(p.x.insert(table, 1, 2, 3, 4, 0));
        }
    }

    private static void lookAtAnswerShortly(Probe p, int i) {
        for (int row = 0; row < 4; row++) {
            p.sees(p.x.cell(row, i));
            p.sees(p.x.isNull(row, i) ? 1 : 0);
        }
    }

    private static void newObject() {
        due.says("REFUSALS on a new object");
        all(QueryRunner::new, List.of(
                refused("table(0)", OUTSIDE, x -> x.table(0)),
                refused("table(5)", OUTSIDE, x -> x.table(5)),
                refused("insert", UNKNOWN, x -> x.insert(0, 1, 1, 1, 1, 0)),
                refused("insert, a value outside", UNKNOWN, x -> x.insert(0, BEYOND, 1, 1, 1, 0)),
                refused("constant", OUTSIDE, x -> x.constant(BEYOND, false)),
                refused("constant, NULL", OUTSIDE, x -> x.constant(-BEYOND, true)),
                refused("column(3, 0)", OUTSIDE, x -> x.column(3, 0)),
                refused("column(0, 4)", OUTSIDE, x -> x.column(0, 4)),
                refused("op", UNKNOWN, x -> x.op(0, 0, 0)),
                refused("op(13)", UNKNOWN, x -> x.op(13, 0, 0)),
                refused("aggregate", UNKNOWN, x -> x.aggregate(0, 0, false)),
                refused("aggregate(6)", UNKNOWN, x -> x.aggregate(6, 0, false)),
                refused("source", UNKNOWN, x -> x.source(0, 0, -1)),
                refused("source, how 3", UNKNOWN, x -> x.source(0, 3, -1)),
                refused("source, how 1", UNKNOWN, x -> x.source(0, 1, -1)),
                refused("condition", UNKNOWN, x -> x.condition(0, 0)),
                refused("condition, what 2", UNKNOWN, x -> x.condition(2, 0)),
                refused("group", UNKNOWN, x -> x.group(0)),
                refused("item", UNKNOWN, x -> x.item(0)),
                refused("order", UNKNOWN, x -> x.order(0, false)),
                refused("shape, keep", OUTSIDE, x -> x.shape(true, 1001, 1)),
                refused("shape, skip", OUTSIDE, x -> x.shape(true, 1, -1))));
    }

    // Tables, a query with something of each kind, and its answer: two groups have the same sum, so that all of the
    // shape can be seen.
    private static QueryRunner builtObject() {
        QueryRunner x = new QueryRunner();
        x.table(2);
        x.table(3);
        x.insert(0, 3, 1, 0, 0, 0);
        x.insert(0, 1, 0, 0, 0, 2);
        x.insert(0, 3, 2, 0, 0, 0);
        x.insert(0, 5, 3, 0, 0, 0);
        x.insert(1, 4, 5, 6, 0, 0);
        x.column(0, 0);
        x.column(0, 1);
        x.aggregate(2, 1, false);
        x.op(5, VALUE, VALUE);
        x.op(12, VALUE, 0);
        x.source(0, 0, -1);
        x.condition(0, TRUTH);
        x.group(VALUE);
        x.item(SUM);
        x.item(SUM);
        x.order(0, true);
        x.shape(true, 3, 1);
        x.run();
        return x;
    }

    private static void built() {
        due.says("REFUSALS on an object with a query and an answer");
        QueryRunner y = builtObject();
        due.holds("its answer", y, "- -");
        int value = VALUE;
        int truth = TRUTH;
        int next = 5;
        due.is("its expressions", y.fresh(), next);
        all(RefusalsTest::builtObject, List.of(
                refused("table", OUTSIDE, x -> x.table(-1)),
                refused("insert, no such table", UNKNOWN, x -> x.insert(2, BEYOND, 0, 0, 0, 0)),
                refused("insert, first outside", OUTSIDE, x -> x.insert(0, BEYOND, 9, 0, 0, 0)),
                refused("insert, last outside", OUTSIDE, x -> x.insert(1, 9, 9, -BEYOND, 0, 0)),
                refused("insert, one NULL, one outside", OUTSIDE, x -> x.insert(0, BEYOND, BEYOND, 0, 0, 1)),
                refused("constant", OUTSIDE, x -> x.constant(-BEYOND, false)),
                refused("column", OUTSIDE, x -> x.column(-1, 0)),
                refused("op, first unknown, second a truth", UNKNOWN, x -> x.op(0, next, truth)),
                refused("op, second unknown, first a truth", UNKNOWN, x -> x.op(0, truth, next)),
                refused("op, unknown and outside", UNKNOWN, x -> x.op(13, value, next)),
                refused("op, unknown and outside, the first", UNKNOWN, x -> x.op(-1, -1, value)),
                refused("op, outside and state", OUTSIDE, x -> x.op(13, value, truth)),
                refused("op, state", STATE, x -> x.op(0, value, truth)),
                refused("op, state of truths", STATE, x -> x.op(9, value, truth)),
                refused("NOT of a value", STATE, x -> x.op(11, value, truth)),
                refused("NOT of nothing", UNKNOWN, x -> x.op(11, next, truth)),
                refused("IS NULL of a truth", STATE, x -> x.op(12, truth, value)),
                refused("aggregate, unknown and outside", UNKNOWN, x -> x.aggregate(6, next, false)),
                refused("aggregate, outside and state, a truth", OUTSIDE, x -> x.aggregate(6, truth, false)),
                refused("aggregate, outside and state", OUTSIDE, x -> x.aggregate(-1, SUM, false)),
                refused("aggregate of a truth", STATE, x -> x.aggregate(0, truth, false)),
                refused("aggregate of an aggregate", STATE, x -> x.aggregate(2, SUM, true)),
                refused("source, unknown table, outside", UNKNOWN, x -> x.source(2, 3, -1)),
                refused("source, unknown table, state", UNKNOWN, x -> x.source(2, 1, -1)),
                refused("source, unknown ON, outside", UNKNOWN, x -> x.source(0, 3, next)),
                refused("source, unknown ON, state", UNKNOWN, x -> x.source(0, 0, next)),
                refused("source, ON -2", UNKNOWN, x -> x.source(0, 0, -2)),
                refused("source, outside and state", OUTSIDE, x -> x.source(0, 3, value)),
                refused("source, outside", OUTSIDE, x -> x.source(0, -1, -1)),
                refused("source, how 0 with ON", STATE, x -> x.source(0, 0, truth)),
                refused("source, how 1 without", STATE, x -> x.source(0, 1, -1)),
                refused("source, how 2 with a value", STATE, x -> x.source(0, 2, value)),
                refused("condition, unknown and outside", UNKNOWN, x -> x.condition(2, next)),
                refused("condition, outside and state", OUTSIDE, x -> x.condition(2, value)),
                refused("condition, outside", OUTSIDE, x -> x.condition(-1, truth)),
                refused("where of a value", STATE, x -> x.condition(0, value)),
                refused("having of a value", STATE, x -> x.condition(1, SUM)),
                refused("group, unknown", UNKNOWN, x -> x.group(next)),
                refused("group, a truth", STATE, x -> x.group(truth)),
                refused("item, unknown", UNKNOWN, x -> x.item(next)),
                refused("item, a truth", STATE, x -> x.item(truth)),
                refused("order, unknown", UNKNOWN, x -> x.order(2, false)),
                refused("order, below", UNKNOWN, x -> x.order(-1, true)),
                refused("shape, keep below", OUTSIDE, x -> x.shape(false, -1, 0)),
                refused("shape, keep above", OUTSIDE, x -> x.shape(false, 1001, 0)),
                refused("shape, skip below", OUTSIDE, x -> x.shape(false, 1000, -1)),
                refused("shape, skip above", OUTSIDE, x -> x.shape(false, 1000, 1001))));
    }

    // As much of everything as there is room for.
    private static QueryRunner fullObject() {
        QueryRunner x = new QueryRunner();
        for (int table = 0; table < 6; table++) {
            x.table(1 + table % 4);
            for (int row = 0; row < (table == 0 ? 8 : table == 1 ? 2 : 0); row++) {
                x.insert(table, row, 0, 0, 0, row == 4 ? 1 : 0);
            }
        }
        x.column(0, 0);
        x.column(1, 0);
        x.aggregate(2, VALUE, false);
        x.op(7, 1, VALUE);
        int where = x.op(11, x.op(12, VALUE, 0), 0);
        for (int i = 1; i < 8; i++) {
            x.aggregate(i % 6, 1, false);
        }
        while (x.constant(7, false) != 59) {
            continue;
        }
        x.source(0, 0, -1);
        x.source(1, 0, -1);
        x.source(1, 2, TRUTH);
        x.condition(0, where);
        for (int i = 0; i < 4; i++) {
            x.group(VALUE);
        }
        x.item(VALUE);
        x.item(SUM);
        for (int e = 6; e < 10; e++) {
            x.item(e);
        }
        for (int i = 0; i < 4; i++) {
            x.order(i, true);
        }
        x.run();
        return x;
    }

    private static void full() {
        due.says("REFUSALS on an object that is full");
        QueryRunner y = fullObject();
        due.is("its rows", y.answer(0), 7);
        due.is("its items", y.answer(1), 6);
        int value = VALUE;
        all(RefusalsTest::fullObject, List.of(
                refused("table, outside", OUTSIDE, x -> x.table(5)),
                refused("table", ROOM, x -> x.table(4)),
                refused("insert, outside", OUTSIDE, x -> x.insert(0, BEYOND, 0, 0, 0, 0)),
                refused("insert", ROOM, x -> x.insert(0, 1, 0, 0, 0, 0)),
                refused("insert, no such table", UNKNOWN, x -> x.insert(6, BEYOND, 0, 0, 0, 0)),
                refused("constant, outside", OUTSIDE, x -> x.constant(BEYOND, false)),
                refused("constant, NULL, outside", OUTSIDE, x -> x.constant(BEYOND, true)),
                refused("constant", ROOM, x -> x.constant(1, false)),
                refused("constant, NULL", ROOM, x -> x.constant(1, true)),
                refused("column, source outside", OUTSIDE, x -> x.column(3, 0)),
                refused("column, column outside", OUTSIDE, x -> x.column(0, -1)),
                refused("column", ROOM, x -> x.column(0, 0)),
                refused("op, unknown", UNKNOWN, x -> x.op(0, value, 60)),
                refused("op, outside", OUTSIDE, x -> x.op(13, value, value)),
                refused("op, state", STATE, x -> x.op(0, value, TRUTH)),
                refused("op", ROOM, x -> x.op(0, value, value)),
                refused("NOT", ROOM, x -> x.op(11, TRUTH, value)),
                refused("IS NULL", ROOM, x -> x.op(12, value, value)),
                refused("aggregate, unknown", UNKNOWN, x -> x.aggregate(0, 60, false)),
                refused("aggregate, outside", OUTSIDE, x -> x.aggregate(6, value, false)),
                refused("aggregate, a truth", STATE, x -> x.aggregate(0, TRUTH, false)),
                refused("aggregate, of an aggregate", STATE, x -> x.aggregate(0, SUM, false)),
                refused("aggregate", ROOM, x -> x.aggregate(0, value, false)),
                refused("source, unknown", UNKNOWN, x -> x.source(6, 0, -1)),
                refused("source, unknown ON", UNKNOWN, x -> x.source(0, 1, 60)),
                refused("source, outside", OUTSIDE, x -> x.source(0, 3, TRUTH)),
                refused("source, state", STATE, x -> x.source(0, 0, TRUTH)),
                refused("source, state, a value", STATE, x -> x.source(0, 1, value)),
                refused("source, state, none", STATE, x -> x.source(0, 2, -1)),
                refused("source", ROOM, x -> x.source(0, 0, -1)),
                refused("source, how 1", ROOM, x -> x.source(0, 1, TRUTH)),
                refused("group, unknown", UNKNOWN, x -> x.group(60)),
                refused("group, state", STATE, x -> x.group(TRUTH)),
                refused("group", ROOM, x -> x.group(value)),
                refused("item, unknown", UNKNOWN, x -> x.item(-1)),
                refused("item, state", STATE, x -> x.item(TRUTH)),
                refused("item", ROOM, x -> x.item(value)),
                refused("order, unknown", UNKNOWN, x -> x.order(6, false)),
                refused("order", ROOM, x -> x.order(5, false)),
                refused("condition, unknown", UNKNOWN, x -> x.condition(0, 60)),
                refused("condition, state", STATE, x -> x.condition(1, value)),
                refused("shape", OUTSIDE, x -> x.shape(true, 0, -1))));
    }

    // Expression 29 has 59 parts, 30 is its IS NULL with 60.
    private static QueryRunner partsObject() {
        QueryRunner x = new QueryRunner();
        x.table(1);
        x.insert(0, 1, 0, 0, 0, 0);
        x.column(0, 0);
        for (int i = 0; i < 29; i++) {
            x.op(0, i, 0);
        }
        x.op(12, 29, 0);
        x.aggregate(2, 29, false);
        x.source(0, 0, -1);
        x.item(29);
        x.run();
        return x;
    }

    private static void withoutRoomForParts() {
        due.says("REFUSALS of what would be put together of more than 60");
        due.holds("the answer", partsObject(), "30");
        int most = 29;
        int truth = 30;
        int sum = 31;
        all(RefusalsTest::partsObject, List.of(
                refused("61 parts", ROOM, x -> x.op(0, most, VALUE)),
                refused("61 parts, compared", ROOM, x -> x.op(5, VALUE, most)),
                refused("61 parts, NOT", ROOM, x -> x.op(11, truth, 0)),
                refused("61 parts, IS NULL", ROOM, x -> x.op(12, sum, 0)),
                refused("121 parts", ROOM, x -> x.op(10, truth, truth)),
                refused("unknown before room", UNKNOWN, x -> x.op(0, most, 32)),
                refused("outside before room", OUTSIDE, x -> x.op(13, most, most)),
                refused("state before room", STATE, x -> x.op(0, most, truth)),
                refused("state before room, AND", STATE, x -> x.op(9, truth, most)),
                refused("state before room, NOT", STATE, x -> x.op(11, sum, 0)),
                refused("an aggregate in it", STATE, x -> x.aggregate(2, sum, false))));
    }

    private static QueryRunner aggregatesObject() {
        QueryRunner x = builtObject();
        for (int i = 0; i < 7; i++) {
            x.aggregate(i % 6, VALUE, i > 3);
        }
        return x;
    }

    private static void withoutRoomForAggregates() {
        due.says("REFUSALS when there are 8 aggregates");
        all(RefusalsTest::aggregatesObject, List.of(
                refused("a ninth", ROOM, x -> x.aggregate(0, VALUE, false)),
                refused("a ninth, distinct", ROOM, x -> x.aggregate(5, VALUE, true)),
                refused("unknown", UNKNOWN, x -> x.aggregate(0, 12, false)),
                refused("outside", OUTSIDE, x -> x.aggregate(6, VALUE, false)),
                refused("a truth", STATE, x -> x.aggregate(0, TRUTH, false)),
                refused("an aggregate in it", STATE, x -> x.aggregate(0, SUM, false))));
    }

    private static QueryRunner freshObject() {
        QueryRunner x = fullObject();
        x.fresh();
        return x;
    }

    private static void behindFresh() {
        due.says("REFUSALS behind fresh()");
        all(RefusalsTest::freshObject, List.of(
                refused("table", ROOM, x -> x.table(1)),
                refused("insert", ROOM, x -> x.insert(0, 1, 0, 0, 0, 0)),
                refused("constant", OUTSIDE, x -> x.constant(BEYOND, false)),
                refused("op", UNKNOWN, x -> x.op(0, 0, 0)),
                refused("aggregate", UNKNOWN, x -> x.aggregate(0, 0, false)),
                refused("source, how 1", UNKNOWN, x -> x.source(0, 1, TRUTH)),
                refused("source, how 1 without ON", STATE, x -> x.source(0, 1, -1)),
                refused("condition", UNKNOWN, x -> x.condition(0, TRUTH)),
                refused("group", UNKNOWN, x -> x.group(0)),
                refused("item", UNKNOWN, x -> x.item(0)),
                refused("order", UNKNOWN, x -> x.order(0, false)),
                refused("shape", OUTSIDE, x -> x.shape(true, 1001, 0))));
    }

    private static QueryRunner faultyObject() {
        QueryRunner x = builtObject();
        x.item(1);
        x.run();
        return x;
    }

    private static void behindAFault() {
        due.says("REFUSALS behind a run that something ended");
        due.hasNoAnswer("no answer", faultyObject());
        all(RefusalsTest::faultyObject, List.of(
                refused("table", OUTSIDE, x -> x.table(0)),
                refused("insert", OUTSIDE, x -> x.insert(0, BEYOND, 0, 0, 0, 0)),
                refused("op", STATE, x -> x.op(9, 0, 0)),
                refused("condition", STATE, x -> x.condition(1, VALUE)),
                refused("group", UNKNOWN, x -> x.group(-1)),
                refused("item", UNKNOWN, x -> x.item(99)),
                refused("order", UNKNOWN, x -> x.order(3, false)),
                refused("shape", OUTSIDE, x -> x.shape(false, 1001, 0))));
    }
}
