import java.util.Random;
import java.util.SortedMap;
import java.util.TreeMap;

/** Promises 1 to 18: chance runs of calls, each answered as the model of the document answers it. */
public final class ModelTest {
    private static final int RUNS = 20000;
    // What later calls answer is free, so no object is used for more.
    private static final int MOST_CALLS = 512;
    private static final int MOST_LOOKS = 12;
    // More calls than any query below takes, with its runs and its looks.
    private static final int QUERY_CALLS = 130;
    private static final long[] NUMBERS = {0, 0, 1, 1, 2, 2, 3, 5, 7, -1, -2, -3, 10, 1000, -1000, 1000000,
        33333333, 999999999999L, 1000000000000L, -1000000000000L};

    private final Due due = new Due("ModelTest");
    private final SortedMap<Integer, Integer> outcomes = new TreeMap<>();
    private Random random;
    private QueryRunner x;
    private Model model;
    private String told;
    private int calls;
    private int expressions;
    private int tables;
    private final int[] widths = new int[6];
    private final int[] sourceTables = new int[3];

    public static void main(String[] args) {
        new ModelTest().all();
    }

    private void all() {
        for (int seed = 0; seed < RUNS; seed++) {
            random = new Random(seed);
            x = new QueryRunner();
            model = new Model();
            told = "seed " + seed;
            calls = 0;
            expressions = 0;
            tables = 0;
            switch (seed % 4) {
                case 0 -> freeRun();
                case 1 -> sumsRun();
                default -> plannedRun(seed % 4 == 2);
            }
            lookAtTheLastAnswer();
            due.is(told + ": at most 512 calls", calls <= MOST_CALLS, true);
        }
        System.out.println("ModelTest: what runs answered below 10, and how often: " + outcomes.headMap(10));
        for (int code : new int[] {-1, -11, -12, -13, -15, -20, -21, 0, 1, 2, 8, 64, 200}) {
            due.is("some run answers " + code, outcomes.containsKey(code), true);
        }
        due.end();
    }

    private void same(String call, long got, long want) {
        calls++;
        due.is(told + ", call " + calls + ", " + call, got, want);
    }

    private int below(int n) {
        return random.nextInt(n);
    }

    private boolean chance(int percent) {
        return below(100) < percent;
    }

    private long number() {
        return chance(2) ? 1000000000001L * (below(2) * 2 - 1) : NUMBERS[below(chance(70) ? 10 : NUMBERS.length)];
    }

    private int someExpression() {
        return chance(2) ? below(70) - 3 : expressions == 0 ? 0 : below(expressions);
    }

    // Any call at any time.
    private void freeRun() {
        while (calls < MOST_CALLS - 3 - 2 * MOST_LOOKS) {
            switch (below(24)) {
                case 0 -> table(below(6));
                case 1, 2 -> insert(below(7) - 1);
                case 3 -> {
                    if (chance(30)) {
                        fresh();
                    }
                }
                case 4, 5 -> constant();
                case 6, 7 -> column(below(5) - 1, below(6) - 1);
                case 8, 9, 10, 11 -> op(below(15) - 1, someExpression(), someExpression());
                case 12 -> aggregate(below(8) - 1, someExpression());
                case 13 -> source(below(7) - 1, below(5) - 1, chance(50) ? -1 : someExpression());
                case 14 -> condition(below(4) - 1, someExpression());
                case 15 -> group(someExpression());
                case 16, 17 -> item(someExpression());
                case 18 -> order(below(8) - 1);
                case 19 -> shape(below(1200) - 50, below(12) - 1);
                case 20 -> run();
                case 21 -> cell(below(9) - 1, below(7) - 1);
                default -> look(below(12) - 1, below(8) - 1);
            }
        }
    }

    // Queries that mean something, with some that do not among them.
    private void plannedRun(boolean isFull) {
        int count = 1 + below(3);
        for (int t = 0; t < count; t++) {
            widths[t] = 1 + below(4);
            table(widths[t]);
            int rows = isFull ? 6 + below(3) : below(6);
            for (int r = 0; r < rows; r++) {
                insert(t);
            }
        }
        while (calls < MOST_CALLS - QUERY_CALLS) {
            plannedQuery();
        }
    }

    private void plannedQuery() {
        fresh();
        int sources = 1 + below(3);
        for (int i = 0; i < sources; i++) {
            sourceTables[i] = below(tables);
        }
        for (int i = 0; i < 3 + below(5); i++) {
            int source = below(sources);
            column(chance(98) ? source : below(3), chance(98) ? below(widths[sourceTables[source]]) : below(4));
        }
        for (int i = 0; i < 2 + below(3); i++) {
            constant();
        }
        int leaves = expressions;
        operators(below(6), leaves);
        int plain = expressions;
        if (chance(50)) {
            for (int i = 0; i < 1 + below(4); i++) {
                aggregate(below(6), below(plain));
            }
        }
        int aggregated = expressions;
        operators(below(4), plain);
        int values = expressions;
        truths(0, chance(70) ? leaves : plain);
        int early = expressions;
        truths(plain, values);
        conditions(sources, values, early);
        groupsAndItems(leaves, plain, aggregated, values);
        run();
        if (chance(50)) {
            shape(chance(70) ? 1000 : below(10), below(4));
            run();
        }
    }

    // Groups with sums near the limit and divisions that go wrong in some rows, so that what comes first matters.
    private void sumsRun() {
        int count = 1 + below(2);
        for (int t = 0; t < count; t++) {
            widths[t] = 3;
            table(3);
            int rows = 2 + below(7);
            for (int r = 0; r < rows; r++) {
                long sign = chance(80) ? 1 : -1;
                long large = chance(50) ? sign * (1 + below(3)) : sign * (chance(50) ? 1000000000000L : 499999999999L);
                insert(t, below(3), large, chance(85) ? 1 + below(5) : 0, 0, chance(85) ? 0 : below(8));
            }
        }
        while (calls < MOST_CALLS - QUERY_CALLS) {
            sumsQuery();
        }
    }

    private void sumsQuery() {
        fresh();
        int sources = 1 + below(2);
        for (int i = 0; i < 6; i++) {
            column(i / 3 % sources, i % 3);
        }
        made("constant(1000)", x.constant(1000, false), model.constant(1000, false));
        made("constant(1)", x.constant(1, false), model.constant(1, false));
        for (int i = 0; i < 4; i++) {
            op(chance(70) ? 2 : below(2), chance(70) ? below(2) * 3 + 1 : below(8), chance(70) ? 6 : below(8));
        }
        for (int i = 0; i < 3; i++) {
            op(3 + below(2), below(12), chance(70) ? below(2) * 3 + 2 : 6 + below(2));
        }
        int plain = expressions;
        int aggregates = 1 + below(4);
        for (int i = 0; i < aggregates; i++) {
            aggregate(chance(70) ? 2 + below(2) * 3 : below(6), chance(70) ? 8 + below(7) : below(plain));
        }
        int aggregated = expressions;
        op(5 + below(4), chance(50) ? 12 + below(3) : below(8), below(8));
        op(chance(30) ? 12 : 5 + below(4), plain + below(aggregates), chance(50) ? 6 : plain + below(aggregates));
        for (int i = 0; i < sources; i++) {
            int how = i == 0 || chance(50) ? 0 : 1 + below(2);
            source(below(tables), how, how == 0 ? -1 : aggregated);
        }
        if (chance(40)) {
            condition(0, aggregated);
        }
        if (chance(30)) {
            condition(1, aggregated + 1);
        }
        if (chance(60)) {
            group(chance(70) ? 0 : chance(50) ? 3 : 12 + below(3));
        }
        int items = 1 + below(aggregates);
        for (int i = 0; i < items; i++) {
            item(plain + below(aggregates));
        }
        run();
    }

    private void operators(int count, int from) {
        for (int i = 0; i < count; i++) {
            op(chance(50) ? below(3) : below(5), below(expressions), chance(50) ? below(from) : below(expressions));
        }
    }

    private void truths(int from, int to) {
        int before = expressions;
        for (int i = 0; i < 2 + below(4); i++) {
            int a = from + below(Math.max(1, to - from));
            op(chance(20) ? 12 : 5 + below(4), a, chance(50) ? a : from + below(Math.max(1, to - from)));
        }
        for (int i = 0; i < below(5); i++) {
            int count = Math.max(1, expressions - before);
            op(9 + below(3), before + below(count), before + below(count));
        }
    }

    private void conditions(int sources, int values, int early) {
        int truths = Math.max(1, early - values);
        for (int i = 0; i < sources; i++) {
            int how = i == 0 ? 0 : below(3);
            source(sourceTables[i], how, how == 0 ? -1 : values + below(truths));
        }
        if (chance(40)) {
            condition(0, values + below(truths));
        }
        if (chance(20)) {
            condition(1, early + below(Math.max(1, expressions - early)));
        }
    }

    private void groupsAndItems(int leaves, int plain, int aggregated, int values) {
        int groups = chance(40) ? 1 + below(3) : 0;
        int[] chosen = new int[3];
        for (int i = 0; i < groups; i++) {
            chosen[i] = chance(80) ? below(leaves) : below(plain);
            group(chosen[i]);
        }
        int items = 1 + below(4);
        for (int i = 0; i < items; i++) {
            boolean isLate = chance(50) && aggregated > plain;
            if (isLate || groups > 0 && chance(20)) {
                item(plain + below(Math.max(1, values - plain)));
            } else {
                item(groups > 0 && chance(90) ? chosen[below(groups)] : below(plain));
            }
        }
        for (int i = 0; i < below(4); i++) {
            order(below(items));
        }
    }

    private void table(int columns) {
        int got = x.table(columns);
        tables = Math.max(tables, got + 1);
        same("table(" + columns + ")", got, model.table(columns));
    }

    private void insert(int table) {
        insert(table, number(), number(), number(), number(), chance(60) ? 0 : below(32));
    }

    private void insert(int table, long a, long b, long c, long d, int nulls) {
        same("insert(" + table + ")", x.insert(table, a, b, c, d, nulls), model.insert(table, a, b, c, d, nulls));
    }

    private void fresh() {
        same("fresh()", x.fresh(), model.fresh());
        expressions = 0;
    }

    private void constant() {
        long v = number();
        boolean isNull = chance(15);
        made("constant(" + v + ", " + isNull + ")", x.constant(v, isNull), model.constant(v, isNull));
    }

    private void column(int source, int column) {
        made("column(" + source + ", " + column + ")", x.column(source, column), model.column(source, column));
    }

    private void op(int kind, int a, int b) {
        made("op(" + kind + ", " + a + ", " + b + ")", x.op(kind, a, b), model.op(kind, a, b));
    }

    private void aggregate(int kind, int a) {
        boolean distinct = chance(40);
        made("aggregate(" + kind + ", " + a + ", " + distinct + ")",
                x.aggregate(kind, a, distinct), model.aggregate(kind, a, distinct));
    }

    private void made(String call, int got, int want) {
        same(call, got, want);
        expressions = Math.max(expressions, got + 1);
    }

    private void source(int table, int how, int on) {
        same("source(" + table + ", " + how + ", " + on + ")", x.source(table, how, on), model.source(table, how, on));
    }

    private void condition(int what, int e) {
        same("condition(" + what + ", " + e + ")", x.condition(what, e), model.condition(what, e));
    }

    private void group(int e) {
        same("group(" + e + ")", x.group(e), model.group(e));
    }

    private void item(int e) {
        same("item(" + e + ")", x.item(e), model.item(e));
    }

    private void order(int item) {
        boolean down = chance(50);
        same("order(" + item + ", " + down + ")", x.order(item, down), model.order(item, down));
    }

    private void shape(int keep, int skip) {
        boolean distinct = chance(60);
        same("shape(" + distinct + ", " + keep + ", " + skip + ")",
                x.shape(distinct, keep, skip), model.shape(distinct, keep, skip));
    }

    private void run() {
        int want = model.run();
        outcomes.merge(want, 1, Integer::sum);
        same("run()", x.run(), want);
        same("answer(0)", x.answer(0), model.answer(0));
        same("answer(1)", x.answer(1), model.answer(1));
        int looks = Math.min(MOST_LOOKS, want < 1 ? 1 : want * model.answer(1));
        for (int k = 0; k < looks; k++) {
            cell(below(Math.max(1, want + 1)), below(model.answer(1) + 1));
        }
    }

    // What is left of the calls, for the whole of the last answer or as much of it as there are calls.
    private void lookAtTheLastAnswer() {
        int start = below(1 + model.answer(0));
        for (int row = start; row <= model.answer(0); row++) {
            for (int i = 0; i < model.answer(1) && calls + 2 <= MOST_CALLS; i++) {
                cell(row, i);
            }
        }
    }

    private void cell(int row, int i) {
        same("cell(" + row + ", " + i + ")", x.cell(row, i), model.cell(row, i));
        same("isNull(" + row + ", " + i + ")", x.isNull(row, i) ? 1 : 0, model.isNull(row, i) ? 1 : 0);
    }

    private void look(int row, int i) {
        same("isNull", x.isNull(row, i) ? 1 : 0, model.isNull(row, i) ? 1 : 0);
        same("answer", x.answer(i), model.answer(i));
    }
}
