import java.math.BigInteger;
import java.util.ArrayList;
import java.util.Arrays;
import java.util.Comparator;
import java.util.LinkedHashMap;
import java.util.LinkedHashSet;
import java.util.List;
import java.util.Map;
import java.util.TreeMap;

/** The document once more, told with the Java library: trees, maps, BigIntegers and exceptions. */
final class Model {
    private static final int UNKNOWN = -101, OUTSIDE = -102, STATE = -103, ROOM = -104;
    private static final BigInteger MOST = BigInteger.TEN.pow(15);

    private static final class Wrong extends RuntimeException {
        final int code;

        Wrong(int code) {
            super(null, null, false, false);
            this.code = code;
        }
    }

    private record Expression(int number, String kind, int op, Long value, int source, int column,
            Expression a, Expression b, boolean distinct) {
        boolean isTruth() {
            return kind.equals("op") && op >= 5;
        }

        List<Expression> all() {
            List<Expression> all = new ArrayList<>(List.of(this));
            if (a != null) {
                all.addAll(a.all());
            }
            if (b != null) {
                all.addAll(b.all());
            }
            return all;
        }

        boolean hasAggregate() {
            return all().stream().anyMatch(e -> e.kind.equals("aggregate"));
        }

        String text() {
            return switch (kind) {
                case "constant" -> "" + value;
                case "column" -> "s" + source + "c" + column;
                case "op" -> "(" + op + " " + a.text() + (b == null ? "" : " " + b.text()) + ")";
                default -> "{" + op + (distinct ? "d " : " ") + a.text() + "}";
            };
        }
    }

    private record Source(int table, int how, Expression on) { }

    private record Order(int item, boolean down) { }

    private final List<Integer> widths = new ArrayList<>();
    private final List<List<Long[]>> tables = new ArrayList<>();
    private List<Expression> expressions;
    private List<Source> sources;
    private List<Expression> groups;
    private List<Expression> items;
    private List<Order> orders;
    private Expression where;
    private Expression having;
    private boolean distinct;
    private int keep;
    private int skip;

    private List<List<Long>> answer = List.of();
    private int answerItems = 0;

    // What a run works on.
    private List<List<Long>> given;
    private Map<List<Long>, List<Long[][]>> grouped;
    private Map<List<Long>, List<Map<Integer, Long>>> arguments;
    private List<Long> currentGroup;

    Model() {
        fresh();
    }

    int table(int columns) {
        if (columns < 1 || columns > 4) {
            return OUTSIDE;
        }
        if (tables.size() == 6) {
            return ROOM;
        }
        widths.add(columns);
        tables.add(new ArrayList<>());
        return tables.size() - 1;
    }

    int insert(int table, long a, long b, long c, long d, int nulls) {
        if (table < 0 || table >= tables.size()) {
            return UNKNOWN;
        }
        Long[] row = Arrays.copyOf(new Long[] {a, b, c, d}, widths.get(table));
        for (int i = 0; i < row.length; i++) {
            if ((nulls & 1 << i) != 0) {
                row[i] = null;
            } else if (isOutside(row[i])) {
                return OUTSIDE;
            }
        }
        if (tables.get(table).size() == 8) {
            return ROOM;
        }
        tables.get(table).add(row);
        return tables.get(table).size();
    }

    int fresh() {
        int count = expressions == null ? 0 : expressions.size();
        expressions = new ArrayList<>();
        sources = new ArrayList<>();
        groups = new ArrayList<>();
        items = new ArrayList<>();
        orders = new ArrayList<>();
        where = null;
        having = null;
        distinct = false;
        keep = 1000;
        skip = 0;
        return count;
    }

    int constant(long v, boolean isNull) {
        if (isOutside(v)) {
            return OUTSIDE;
        }
        return add(new Expression(expressions.size(), "constant", -1, isNull ? null : v, -1, -1, null, null, false));
    }

    int column(int source, int column) {
        if (source < 0 || source > 2 || column < 0 || column > 3) {
            return OUTSIDE;
        }
        return add(new Expression(expressions.size(), "column", -1, null, source, column, null, null, false));
    }

    int op(int kind, int a, int b) {
        boolean ofOne = kind == 11 || kind == 12;
        Expression first = find(a);
        Expression second = ofOne ? null : find(b);
        if (first == null || second == null && !ofOne) {
            return UNKNOWN;
        }
        if (kind < 0 || kind > 12) {
            return OUTSIDE;
        }
        boolean wantsTruth = List.of(9, 10, 11).contains(kind);
        if (first.isTruth() != wantsTruth || second != null && second.isTruth() != wantsTruth) {
            return STATE;
        }
        return add(new Expression(expressions.size(), "op", kind, null, -1, -1, first, second, false));
    }

    int aggregate(int kind, int a, boolean distinctValues) {
        Expression of = find(a);
        if (of == null) {
            return UNKNOWN;
        }
        if (kind < 0 || kind > 5) {
            return OUTSIDE;
        }
        if (of.isTruth() || of.hasAggregate()) {
            return STATE;
        }
        if (expressions.stream().filter(e -> e.kind.equals("aggregate")).count() == 8) {
            return ROOM;
        }
        return add(new Expression(expressions.size(), "aggregate", kind, null, -1, -1, of, null, distinctValues));
    }

    int source(int table, int how, int on) {
        Expression e = find(on);
        if (table < 0 || table >= tables.size() || on != -1 && e == null) {
            return UNKNOWN;
        }
        if (how < 0 || how > 2) {
            return OUTSIDE;
        }
        if (sources.isEmpty() && how != 0 || how == 0 && on != -1 || how != 0 && on == -1) {
            return STATE;
        }
        if (e != null && !e.isTruth()) {
            return STATE;
        }
        if (sources.size() == 3) {
            return ROOM;
        }
        sources.add(new Source(table, how, e));
        return sources.size();
    }

    int condition(int what, int e) {
        Expression condition = find(e);
        if (condition == null) {
            return UNKNOWN;
        }
        if (what < 0 || what > 1) {
            return OUTSIDE;
        }
        if (!condition.isTruth()) {
            return STATE;
        }
        if (what == 0) {
            where = condition;
        } else {
            having = condition;
        }
        return 1;
    }

    int group(int e) {
        int refusal = refusal(e, groups.size(), 4);
        if (refusal != 0) {
            return refusal;
        }
        groups.add(find(e));
        return groups.size();
    }

    int item(int e) {
        int refusal = refusal(e, items.size(), 6);
        if (refusal != 0) {
            return refusal;
        }
        items.add(find(e));
        return items.size() - 1;
    }

    int order(int item, boolean down) {
        if (item < 0 || item >= items.size()) {
            return UNKNOWN;
        }
        if (orders.size() == 4) {
            return ROOM;
        }
        orders.add(new Order(item, down));
        return orders.size();
    }

    int shape(boolean newDistinct, int newKeep, int newSkip) {
        if (newKeep < 0 || newKeep > 1000 || newSkip < 0 || newSkip > 1000) {
            return OUTSIDE;
        }
        distinct = newDistinct;
        keep = newKeep;
        skip = newSkip;
        return 1;
    }

    int run() {
        answer = List.of();
        answerItems = 0;
        try {
            check();
            given = new ArrayList<>();
            grouped = new LinkedHashMap<>();
            arguments = new LinkedHashMap<>();
            join(new Long[3][], 0);
            if (isGrouped()) {
                giveGroups();
            }
        } catch (Wrong wrong) {
            return wrong.code;
        }
        List<List<Long>> rows = distinct ? new ArrayList<>(new LinkedHashSet<>(given)) : given;
        if (!orders.isEmpty()) {
            rows.sort(comparator());
        }
        answer = rows.stream().skip(skip).limit(keep).toList();
        answerItems = items.size();
        return answer.size();
    }

    long cell(int row, int i) {
        Long value = row >= 0 && row < answer.size() && i >= 0 && i < answerItems ? answer.get(row).get(i) : null;
        return value == null ? 0 : value;
    }

    boolean isNull(int row, int i) {
        return row >= 0 && row < answer.size() && i >= 0 && i < answerItems && answer.get(row).get(i) == null;
    }

    int answer(int what) {
        return what == 0 ? answer.size() : what == 1 ? answerItems : -1;
    }

    private static boolean isOutside(long v) {
        return Math.abs(BigInteger.valueOf(v).doubleValue()) > 1e12;
    }

    private Expression find(int e) {
        return e >= 0 && e < expressions.size() ? expressions.get(e) : null;
    }

    private int add(Expression e) {
        if (expressions.size() == 60 || e.all().size() > 60) {
            return ROOM;
        }
        expressions.add(e);
        return e.number;
    }

    private int refusal(int e, int count, int most) {
        if (find(e) == null) {
            return UNKNOWN;
        }
        return find(e).isTruth() ? STATE : count == most ? ROOM : 0;
    }

    private Comparator<List<Long>> comparator() {
        Comparator<List<Long>> all = (x, y) -> 0;
        for (Order order : orders) {
            Comparator<List<Long>> one = Comparator.comparing(
                    (List<Long> row) -> row.get(order.item), Comparator.nullsFirst(Comparator.<Long>naturalOrder()));
            all = all.thenComparing(order.down ? one.reversed() : one);
        }
        return all;
    }

    private boolean isGrouped() {
        return !groups.isEmpty() || having != null || items.stream().anyMatch(Expression::hasAggregate);
    }

    private List<Expression> late() {
        List<Expression> late = new ArrayList<>(items);
        if (having != null) {
            late.add(having);
        }
        return late;
    }

    private void check() {
        if (sources.isEmpty() || items.isEmpty()) {
            throw new Wrong(-1);
        }
        List<Expression> early = new ArrayList<>(groups);
        if (where != null) {
            early.add(where);
        }
        List<Expression> everywhere = new ArrayList<>(early);
        everywhere.addAll(late());
        for (int i = 0; i < sources.size(); i++) {
            if (sources.get(i).on != null) {
                checkColumns(sources.get(i).on, i);
                early.add(sources.get(i).on);
            }
        }
        everywhere.forEach(e -> checkColumns(e, sources.size() - 1));
        if (early.stream().anyMatch(Expression::hasAggregate)) {
            throw new Wrong(-12);
        }
        if (isGrouped()) {
            late().forEach(this::checkGrouped);
        }
    }

    private void checkColumns(Expression e, int last) {
        for (Expression part : e.all()) {
            if (part.kind.equals("column")
                    && (part.source > last || part.column >= widths.get(sources.get(part.source).table))) {
                throw new Wrong(-11);
            }
        }
    }

    private void checkGrouped(Expression e) {
        if (e.kind.equals("aggregate") || groups.stream().anyMatch(g -> g.text().equals(e.text()))) {
            return;
        }
        if (e.kind.equals("column")) {
            throw new Wrong(-13);
        }
        if (e.a != null) {
            checkGrouped(e.a);
        }
        if (e.b != null) {
            checkGrouped(e.b);
        }
    }

    private void join(Long[][] rows, int level) {
        if (level == sources.size()) {
            if (where == null || Boolean.TRUE.equals(truth(where, rows))) {
                take(rows.clone());
            }
            return;
        }
        Source source = sources.get(level);
        boolean matched = false;
        for (Long[] row : tables.get(source.table)) {
            rows[level] = row;
            if (source.on == null || Boolean.TRUE.equals(truth(source.on, rows))) {
                matched = true;
                join(rows, level + 1);
            }
        }
        if (!matched && source.how == 2) {
            rows[level] = new Long[4];
            join(rows, level + 1);
        }
    }

    private void take(Long[][] rows) {
        if (!isGrouped()) {
            give(rows);
            return;
        }
        List<Long> key = new ArrayList<>();
        for (Expression group : groups) {
            key.add(value(group, rows));
        }
        Map<Integer, Long> values = new TreeMap<>();
        grouped.computeIfAbsent(key, k -> new ArrayList<>()).add(rows);
        arguments.computeIfAbsent(key, k -> new ArrayList<>()).add(values);
        currentGroup = key;
        Map<Integer, Expression> used = new TreeMap<>();
        for (Expression e : late()) {
            e.all().stream().filter(part -> part.kind.equals("aggregate")).forEach(part -> used.put(part.number, part));
        }
        for (Expression aggregate : used.values()) {
            values.put(aggregate.number, aggregate.op == 0 ? Long.valueOf(1) : value(aggregate.a, rows));
            // Worked out behind each row for what may go wrong on its way.
            aggregateValue(aggregate);
        }
    }

    private void giveGroups() {
        if (groups.isEmpty() && grouped.isEmpty()) {
            grouped.put(List.of(), new ArrayList<>());
            arguments.put(List.of(), new ArrayList<>());
        }
        for (List<Long> key : grouped.keySet()) {
            currentGroup = key;
            List<Long[][]> members = grouped.get(key);
            Long[][] first = members.isEmpty() ? null : members.get(0);
            if (having == null || Boolean.TRUE.equals(truth(having, first))) {
                give(first);
            }
        }
    }

    private void give(Long[][] rows) {
        if (given.size() == 200) {
            throw new Wrong(-15);
        }
        List<Long> row = new ArrayList<>();
        for (Expression item : items) {
            row.add(value(item, rows));
        }
        given.add(row);
    }

    private Long value(Expression e, Long[][] rows) {
        switch (e.kind) {
            case "constant":
                return e.value;
            case "column":
                return rows[e.source][e.column];
            case "aggregate":
                return aggregateValue(e);
            default:
        }
        Long x = value(e.a, rows);
        Long y = value(e.b, rows);
        if (x == null || y == null) {
            return null;
        }
        BigInteger p = BigInteger.valueOf(x);
        BigInteger q = BigInteger.valueOf(y);
        if (e.op >= 3 && y == 0) {
            throw new Wrong(-20);
        }
        return within(switch (e.op) {
            case 0 -> p.add(q);
            case 1 -> p.subtract(q);
            case 2 -> p.multiply(q);
            case 3 -> p.divide(q);
            default -> p.remainder(q);
        });
    }

    private static Long within(BigInteger result) {
        if (result.abs().compareTo(MOST) > 0) {
            throw new Wrong(-21);
        }
        return result.longValueExact();
    }

    private Boolean truth(Expression e, Long[][] rows) {
        if (e.op == 12) {
            return value(e.a, rows) == null;
        }
        if (e.op == 11) {
            Boolean inner = truth(e.a, rows);
            return inner == null ? null : !inner;
        }
        if (e.op == 9 || e.op == 10) {
            Boolean settles = e.op == 10;
            Boolean first = truth(e.a, rows);
            if (settles.equals(first)) {
                return settles;
            }
            Boolean second = truth(e.b, rows);
            if (settles.equals(second)) {
                return settles;
            }
            return first == null || second == null ? null : Boolean.valueOf(!settles);
        }
        Long x = value(e.a, rows);
        Long y = value(e.b, rows);
        if (x == null || y == null) {
            return null;
        }
        int way = x.compareTo(y);
        return switch (e.op) {
            case 5 -> way == 0;
            case 6 -> way != 0;
            case 7 -> way < 0;
            default -> way <= 0;
        };
    }

    private Long aggregateValue(Expression e) {
        List<Long> values = new ArrayList<>();
        for (Map<Integer, Long> row : arguments.get(currentGroup)) {
            Long value = row.get(e.number);
            if (value != null) {
                values.add(value);
            }
        }
        if (e.distinct && e.op != 0) {
            values = new ArrayList<>(new LinkedHashSet<>(values));
        }
        if (e.op <= 1) {
            return (long) values.size();
        }
        if (values.isEmpty()) {
            return null;
        }
        if (e.op == 3 || e.op == 4) {
            return e.op == 3 ? values.stream().min(Long::compare).get() : values.stream().max(Long::compare).get();
        }
        BigInteger sum = BigInteger.ZERO;
        for (Long value : values) {
            sum = sum.add(BigInteger.valueOf(value));
            within(sum);
        }
        return e.op == 2 ? sum.longValueExact() : sum.divide(BigInteger.valueOf(values.size())).longValueExact();
    }
}
