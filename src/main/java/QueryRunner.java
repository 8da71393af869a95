public final class QueryRunner {
    public static final int UNKNOWN = -101, OUTSIDE = -102, STATE = -103, ROOM = -104;

    private static final long MOST_VALUE = 1000000000000L;
    private static final long MOST_RESULT = 1000000000000000L;
    private static final int MOST_TABLES = 6;
    private static final int MOST_COLUMNS = 4;
    private static final int MOST_TABLE_ROWS = 8;
    private static final int MOST_EXPRESSIONS = 60;
    private static final int MOST_PARTS = 60;
    private static final int MOST_AGGREGATES = 8;
    private static final int MOST_SOURCES = 3;
    private static final int MOST_GROUPS = 4;
    private static final int MOST_ITEMS = 6;
    private static final int MOST_ORDERS = 4;
    private static final int MOST_ANSWER_ROWS = 200;
    private static final int MOST_KEPT = 1000;
    // Three sources of eight rows each; a row of NULLs comes only where no other does.
    private static final int MOST_JOINED_ROWS = 512;

    // The kinds of expressions: 0 .. 12 are the operators of the document.
    private static final int PLUS = 0;
    private static final int MINUS = 1;
    private static final int TIMES = 2;
    private static final int DIVIDE = 3;
    private static final int REST = 4;
    private static final int EQUAL = 5;
    private static final int NOT_EQUAL = 6;
    private static final int LESS = 7;
    private static final int AT_MOST = 8;
    private static final int AND = 9;
    private static final int OR = 10;
    private static final int NOT = 11;
    private static final int IS_NULL = 12;
    private static final int CONSTANT = 13;
    private static final int NULL_CONSTANT = 14;
    private static final int COLUMN = 15;
    private static final int AGGREGATE = 16;

    private static final int COUNT_ROWS = 0;
    private static final int COUNT_VALUES = 1;
    private static final int SUM = 2;
    private static final int LEAST = 3;
    private static final int GREATEST = 4;
    private static final int AVERAGE = 5;

    private static final int FREE_JOIN = 0;
    private static final int LEFT_JOIN = 2;

    private static final int WHERE = 0;
    private static final int HAVING = 1;

    // What working out a value answers; below 0 it is what went wrong.
    private static final int NULL = 0;
    private static final int NUMBER = 1;

    // What working out a truth answers; below 0 it is what went wrong.
    private static final int FALSE = 0;
    private static final int TRUE = 1;
    private static final int UNSURE = 2;

    private static final int DONE = 0;
    private static final int NOTHING_TO_RUN = -1;
    private static final int NO_SUCH_COLUMN = -11;
    private static final int AGGREGATE_TOO_EARLY = -12;
    private static final int COLUMN_OUTSIDE_GROUPS = -13;
    private static final int TOO_MANY_ROWS = -15;
    private static final int DIVIDED_BY_ZERO = -20;
    private static final int TOO_LARGE = -21;

    // No expression, no row.
    private static final int NONE = -1;

    private final Tables tables;
    private final Expressions expressions;
    private final Query query;
    private final Answer answer;
    private final Runner runner;

    public QueryRunner() {
        tables = new Tables();
        expressions = new Expressions();
        query = new Query();
        answer = new Answer();
        runner = new Runner(tables, expressions, query, answer);
    }

    public int table(int columns) {
        if (columns < 1 || columns > MOST_COLUMNS) {
            return OUTSIDE;
        }
        if (tables.count >= MOST_TABLES) {
            return ROOM;
        }
        return tables.addTable(columns);
    }

    public int insert(int table, long a, long b, long c, long d, int nulls) {
        if (!tables.has(table)) {
            return UNKNOWN;
        }
        long[] row = {a, b, c, d};
        int columns = Math.min(tables.columns[table], row.length);
        for (int i = 0; i < columns; i++) {
            if ((nulls >> i & 1) == 0 && isOutside(row[i])) {
                return OUTSIDE;
            }
        }
        if (tables.rows[table] >= MOST_TABLE_ROWS) {
            return ROOM;
        }
        return tables.addRow(table, row, nulls);
    }

    public int fresh() {
        int count = expressions.count;
        expressions.clear();
        query.clear();
        return count;
    }

    public int constant(long v, boolean isNull) {
        if (isOutside(v)) {
            return OUTSIDE;
        }
        if (!expressions.hasRoom(NONE, NONE)) {
            return ROOM;
        }
        return isNull ? expressions.add(NULL_CONSTANT, 0, NONE, NONE) : expressions.add(CONSTANT, v, NONE, NONE);
    }

    public int column(int source, int column) {
        if (source < 0 || source >= MOST_SOURCES || column < 0 || column >= MOST_COLUMNS) {
            return OUTSIDE;
        }
        if (!expressions.hasRoom(NONE, NONE)) {
            return ROOM;
        }
        return expressions.add(COLUMN, source * MOST_COLUMNS + column, NONE, NONE);
    }

    public int op(int kind, int a, int b) {
        boolean ofOne = kind == NOT || kind == IS_NULL;
        if (!expressions.has(a) || !ofOne && !expressions.has(b)) {
            return UNKNOWN;
        }
        if (kind < PLUS || kind > IS_NULL) {
            return OUTSIDE;
        }
        boolean ofTruths = kind == AND || kind == OR || kind == NOT;
        if (expressions.isTruth(a) != ofTruths || !ofOne && expressions.isTruth(b) != ofTruths) {
            return STATE;
        }
        int second = ofOne ? NONE : b;
        if (!expressions.hasRoom(a, second)) {
            return ROOM;
        }
        return expressions.add(kind, 0, a, second);
    }

    public int aggregate(int kind, int a, boolean distinct) {
        if (!expressions.has(a)) {
            return UNKNOWN;
        }
        if (kind < COUNT_ROWS || kind > AVERAGE) {
            return OUTSIDE;
        }
        if (expressions.isTruth(a) || expressions.aggregateBits[a] != 0) {
            return STATE;
        }
        if (expressions.aggregateCount >= MOST_AGGREGATES || !expressions.hasRoom(a, NONE)) {
            return ROOM;
        }
        return expressions.addAggregate(kind, a, distinct);
    }

    public int source(int table, int how, int on) {
        if (!tables.has(table) || on != NONE && !expressions.has(on)) {
            return UNKNOWN;
        }
        if (how < FREE_JOIN || how > LEFT_JOIN) {
            return OUTSIDE;
        }
        if (query.sourceCount == 0 && how != FREE_JOIN) {
            return STATE;
        }
        if ((how == FREE_JOIN) != (on == NONE) || on != NONE && !expressions.isTruth(on)) {
            return STATE;
        }
        if (query.sourceCount >= MOST_SOURCES) {
            return ROOM;
        }
        return query.addSource(table, how, on);
    }

    public int condition(int what, int e) {
        if (!expressions.has(e)) {
            return UNKNOWN;
        }
        if (what != WHERE && what != HAVING) {
            return OUTSIDE;
        }
        if (!expressions.isTruth(e)) {
            return STATE;
        }
        if (what == WHERE) {
            query.where = e;
        } else {
            query.having = e;
        }
        return 1;
    }

    public int group(int e) {
        if (!expressions.has(e)) {
            return UNKNOWN;
        }
        if (expressions.isTruth(e)) {
            return STATE;
        }
        if (query.groupCount >= MOST_GROUPS) {
            return ROOM;
        }
        return query.addGroup(e);
    }

    public int item(int e) {
        if (!expressions.has(e)) {
            return UNKNOWN;
        }
        if (expressions.isTruth(e)) {
            return STATE;
        }
        if (query.itemCount >= MOST_ITEMS) {
            return ROOM;
        }
        return query.addItem(e);
    }

    public int order(int item, boolean down) {
        if (item < 0 || item >= query.itemCount) {
            return UNKNOWN;
        }
        if (query.orderCount >= MOST_ORDERS) {
            return ROOM;
        }
        return query.addOrder(item, down);
    }

    public int shape(boolean distinct, int keep, int skip) {
        if (keep < 0 || keep > MOST_KEPT || skip < 0 || skip > MOST_KEPT) {
            return OUTSIDE;
        }
        query.setShape(distinct, keep, skip);
        return 1;
    }

    public int run() {
        answer.clear();
        int outcome = runner.prepare();
        if (outcome == DONE) {
            outcome = runner.joinFrom(0);
        }
        if (outcome == DONE) {
            outcome = runner.giveGroups();
        }
        if (outcome != DONE) {
            return outcome;
        }
        answer.finish(query);
        return answer.shown;
    }

    public long cell(int row, int i) {
        return answer.has(row, i) ? answer.numberOf(row, i) : 0;
    }

    public boolean isNull(int row, int i) {
        return answer.has(row, i) && answer.lacks(row, i);
    }

    public int answer(int what) {
        if (what == 0) {
            return answer.shown;
        }
        return what == 1 ? answer.items : -1;
    }

    private static boolean isOutside(long v) {
        return v < -MOST_VALUE || v > MOST_VALUE;
    }

    private static final class Tables {
        int count;
        final int[] columns = new int[MOST_TABLES];
        final int[] rows = new int[MOST_TABLES];
        final long[] numbers = new long[MOST_TABLES * MOST_TABLE_ROWS * MOST_COLUMNS];
        final int[] nullBits = new int[MOST_TABLES * MOST_TABLE_ROWS];

        boolean has(int table) {
            return table >= 0 && table < count;
        }

        int addTable(int width) {
            columns[count] = width;
            count++;
            return count - 1;
        }

        int addRow(int table, long[] row, int nulls) {
            int place = table * MOST_TABLE_ROWS + rows[table];
            nullBits[place] = nulls;
            System.arraycopy(row, 0, numbers, place * MOST_COLUMNS, MOST_COLUMNS);
            rows[table]++;
            return rows[table];
        }
    }

    /** The expressions by their numbers; what an expression is put together of has smaller numbers. */
    private static final class Expressions {
        int count;
        int aggregateCount;
        final int[] kind = new int[MOST_EXPRESSIONS];
        // A constant's number, a column's bit, an aggregate's slot.
        final long[] detail = new long[MOST_EXPRESSIONS];
        final int[] first = new int[MOST_EXPRESSIONS];
        final int[] second = new int[MOST_EXPRESSIONS];
        final int[] parts = new int[MOST_EXPRESSIONS];
        // The smallest number of an expression put together in the same way. Aggregates are never alike:
        // only parts without one are compared with groups.
        final int[] like = new int[MOST_EXPRESSIONS];
        final int[] columnBits = new int[MOST_EXPRESSIONS];
        final int[] aggregateBits = new int[MOST_EXPRESSIONS];
        final int[] aggregateKind = new int[MOST_AGGREGATES];
        final int[] aggregateOf = new int[MOST_AGGREGATES];
        final boolean[] aggregateDistinct = new boolean[MOST_AGGREGATES];

        void clear() {
            count = 0;
            aggregateCount = 0;
        }

        boolean has(int e) {
            return e >= 0 && e < count;
        }

        boolean isTruth(int e) {
            return kind[e] >= EQUAL && kind[e] <= IS_NULL;
        }

        boolean hasRoom(int a, int b) {
            return count < MOST_EXPRESSIONS && 1 + partsOf(a) + partsOf(b) <= MOST_PARTS;
        }

        int add(int newKind, long newDetail, int a, int b) {
            int e = count;
            kind[e] = newKind;
            detail[e] = newDetail;
            first[e] = a;
            second[e] = b;
            parts[e] = 1 + partsOf(a) + partsOf(b);
            columnBits[e] = newKind == COLUMN ? 1 << (int) newDetail : bitsOf(columnBits, a) | bitsOf(columnBits, b);
            aggregateBits[e] = newKind == AGGREGATE ? 1 << (int) newDetail
                    : bitsOf(aggregateBits, a) | bitsOf(aggregateBits, b);
            like[e] = firstLike(e);
            count++;
            return e;
        }

        int addAggregate(int newKind, int a, boolean distinct) {
            int slot = aggregateCount;
            aggregateKind[slot] = newKind;
            aggregateOf[slot] = a;
            aggregateDistinct[slot] = distinct && newKind != COUNT_ROWS;
            aggregateCount++;
            return add(AGGREGATE, slot, a, NONE);
        }

        boolean isAlike(int a, int b) {
            return like[a] == like[b];
        }

        private int partsOf(int e) {
            return has(e) ? parts[e] : 0;
        }

        private int bitsOf(int[] bits, int e) {
            return has(e) ? bits[e] : 0;
        }

        private int firstLike(int e) {
            for (int i = 0; i < e; i++) {
                if (kind[i] == kind[e] && detail[i] == detail[e]
                        && likeOf(first[i]) == likeOf(first[e]) && likeOf(second[i]) == likeOf(second[e])) {
                    return like[i];
                }
            }
            return e;
        }

        private int likeOf(int e) {
            return has(e) ? like[e] : NONE;
        }
    }

    private static final class Query {
        int sourceCount;
        final int[] sourceTable = new int[MOST_SOURCES];
        final int[] how = new int[MOST_SOURCES];
        final int[] on = new int[MOST_SOURCES];
        int where = NONE;
        int having = NONE;
        int groupCount;
        final int[] groups = new int[MOST_GROUPS];
        int itemCount;
        final int[] items = new int[MOST_ITEMS];
        int orderCount;
        final int[] orderItem = new int[MOST_ORDERS];
        final boolean[] orderDown = new boolean[MOST_ORDERS];
        boolean distinct;
        int keep = MOST_KEPT;
        int skip;

        void clear() {
            sourceCount = 0;
            where = NONE;
            having = NONE;
            groupCount = 0;
            itemCount = 0;
            orderCount = 0;
            setShape(false, MOST_KEPT, 0);
        }

        int addSource(int table, int newHow, int newOn) {
            sourceTable[sourceCount] = table;
            how[sourceCount] = newHow;
            on[sourceCount] = newOn;
            sourceCount++;
            return sourceCount;
        }

        int addGroup(int e) {
            groups[groupCount] = e;
            groupCount++;
            return groupCount;
        }

        int addItem(int e) {
            items[itemCount] = e;
            itemCount++;
            return itemCount - 1;
        }

        int addOrder(int place, boolean down) {
            orderItem[orderCount] = place;
            orderDown[orderCount] = down;
            orderCount++;
            return orderCount;
        }

        void setShape(boolean newDistinct, int newKeep, int newSkip) {
            distinct = newDistinct;
            keep = newKeep;
            skip = newSkip;
        }
    }

    /** What can be said of a query before any row is looked at. */
    private static final class Checker {
        private final Tables tables;
        private final Expressions expressions;
        private final Query query;
        private final boolean[] loose = new boolean[MOST_EXPRESSIONS];

        Checker(Tables tables, Expressions expressions, Query query) {
            this.tables = tables;
            this.expressions = expressions;
            this.query = query;
        }

        int firstFault() {
            if (query.sourceCount == 0 || query.itemCount == 0) {
                return NOTHING_TO_RUN;
            }
            if (hasUnknownColumn()) {
                return NO_SUCH_COLUMN;
            }
            if (hasEarlyAggregate()) {
                return AGGREGATE_TOO_EARLY;
            }
            if (isGrouped() && hasLooseColumn()) {
                return COLUMN_OUTSIDE_GROUPS;
            }
            return DONE;
        }

        boolean isGrouped() {
            return query.groupCount > 0 || query.having != NONE || lateAggregates() != 0;
        }

        /** A bit for each aggregate in the having and the items. */
        int lateAggregates() {
            return bitsIn(query.items, query.itemCount, expressions.aggregateBits)
                    | bitsAt(query.having, expressions.aggregateBits);
        }

        private boolean hasUnknownColumn() {
            for (int i = 0; i < query.sourceCount; i++) {
                if ((bitsAt(query.on[i], expressions.columnBits) & ~columnsUpTo(i)) != 0) {
                    return true;
                }
            }
            int used = bitsAt(query.where, expressions.columnBits)
                    | bitsAt(query.having, expressions.columnBits)
                    | bitsIn(query.groups, query.groupCount, expressions.columnBits)
                    | bitsIn(query.items, query.itemCount, expressions.columnBits);
            return (used & ~columnsUpTo(query.sourceCount - 1)) != 0;
        }

        private boolean hasEarlyAggregate() {
            int used = bitsIn(query.on, query.sourceCount, expressions.aggregateBits)
                    | bitsAt(query.where, expressions.aggregateBits)
                    | bitsIn(query.groups, query.groupCount, expressions.aggregateBits);
            return used != 0;
        }

        private boolean hasLooseColumn() {
            for (int e = 0; e < expressions.count; e++) {
                loose[e] = !isLikeGroup(e) && isLoose(e);
            }
            for (int i = 0; i < query.itemCount; i++) {
                if (loose[query.items[i]]) {
                    return true;
                }
            }
            return expressions.has(query.having) && loose[query.having];
        }

        private boolean isLikeGroup(int e) {
            for (int i = 0; i < query.groupCount; i++) {
                if (expressions.isAlike(e, query.groups[i])) {
                    return true;
                }
            }
            return false;
        }

        // Its parts come before it, so what they are is known by now.
        private boolean isLoose(int e) {
            int kind = expressions.kind[e];
            if (kind == COLUMN || kind == AGGREGATE) {
                return kind == COLUMN;
            }
            int a = expressions.first[e];
            int b = expressions.second[e];
            return expressions.has(a) && loose[a] || expressions.has(b) && loose[b];
        }

        private int columnsUpTo(int last) {
            int bits = 0;
            for (int i = 0; i <= last && i < query.sourceCount; i++) {
                int width = tables.columns[query.sourceTable[i]];
                bits |= (1 << width) - 1 << i * MOST_COLUMNS;
            }
            return bits;
        }

        private int bitsIn(int[] list, int count, int[] bits) {
            int all = 0;
            for (int i = 0; i < count; i++) {
                all |= bitsAt(list[i], bits);
            }
            return all;
        }

        private int bitsAt(int e, int[] bits) {
            return expressions.has(e) ? bits[e] : 0;
        }
    }

    /** Works out expressions for the rows that the sources stand at. */
    private static final class Evaluator {
        private final Tables tables;
        private final Expressions expressions;
        private final Query query;
        final int[] at = new int[MOST_SOURCES];
        // Made by the first grouped run alone, since it is by far the largest part of an object.
        Groups groups;
        // What was worked out last, and the first of its two.
        long number;
        private long left;

        Evaluator(Tables tables, Expressions expressions, Query query) {
            this.tables = tables;
            this.expressions = expressions;
            this.query = query;
        }

        private int value(int e, int depth) {
            number = 0;
            if (depth >= MOST_PARTS || !expressions.has(e)) {
                return NULL;
            }
            switch (expressions.kind[e]) {
                case CONSTANT:
                    number = expressions.detail[e];
                    return NUMBER;
                case NULL_CONSTANT:
                    return NULL;
                case COLUMN:
                    return lookUp((int) expressions.detail[e]);
                case AGGREGATE:
                    return ofGroup((int) expressions.detail[e]);
                default:
                    int state = operands(e, depth);
                    return state == NUMBER ? calculate(expressions.kind[e], left, number) : state;
            }
        }

        private int truth(int e, int depth) {
            if (depth >= MOST_PARTS || !expressions.has(e)) {
                return UNSURE;
            }
            int kind = expressions.kind[e];
            if (kind == AND || kind == OR) {
                return junction(e, depth);
            }
            if (kind == NOT) {
                int inner = truth(expressions.first[e], depth + 1);
                return inner == TRUE ? FALSE : inner == FALSE ? TRUE : inner;
            }
            if (kind == IS_NULL) {
                int inner = value(expressions.first[e], depth + 1);
                return inner < 0 ? inner : inner == NULL ? TRUE : FALSE;
            }
            int state = operands(e, depth);
            return state < 0 ? state : state == NULL ? UNSURE : compares(kind, left, number) ? TRUE : FALSE;
        }

        private int lookUp(int bit) {
            int source = bit / MOST_COLUMNS;
            int column = bit % MOST_COLUMNS;
            int row = at[source];
            if (row == NONE) {
                return NULL;
            }
            int place = query.sourceTable[source] * MOST_TABLE_ROWS + row;
            if ((tables.nullBits[place] >> column & 1) != 0) {
                return NULL;
            }
            number = tables.numbers[place * MOST_COLUMNS + column];
            return NUMBER;
        }

        private int ofGroup(int slot) {
            if (groups == null) {
                return NULL;
            }
            number = groups.resultOf(slot);
            return groups.hasResult(slot) ? NUMBER : NULL;
        }

        // The first one's number is kept behind the second one's work, which may come through here itself.
        private int operands(int e, int depth) {
            int first = value(expressions.first[e], depth + 1);
            long x = number;
            if (first < 0) {
                return first;
            }
            int second = value(expressions.second[e], depth + 1);
            if (second < 0) {
                return second;
            }
            if (first == NULL || second == NULL) {
                number = 0;
                return NULL;
            }
            left = x;
            return NUMBER;
        }

        private int calculate(int kind, long x, long y) {
            long result;
            switch (kind) {
                case PLUS:
                    result = x + y;
                    break;
                case MINUS:
                    result = x - y;
                    break;
                case TIMES:
                    // Tested by a division, since the product itself may not fit into a long.
                    if (x != 0 && (y < 0 ? -y : y) > MOST_RESULT / (x < 0 ? -x : x)) {
                        return TOO_LARGE;
                    }
                    result = x * y;
                    break;
                default:
                    if (y == 0) {
                        return DIVIDED_BY_ZERO;
                    }
                    result = kind == DIVIDE ? x / y : x % y;
            }
            if (result < -MOST_RESULT || result > MOST_RESULT) {
                return TOO_LARGE;
            }
            number = result;
            return NUMBER;
        }

        private static boolean compares(int kind, long x, long y) {
            switch (kind) {
                case EQUAL:
                    return x == y;
                case NOT_EQUAL:
                    return x != y;
                case LESS:
                    return x < y;
                default:
                    return x <= y;
            }
        }

        private int junction(int e, int depth) {
            int settling = expressions.kind[e] == AND ? FALSE : TRUE;
            int first = truth(expressions.first[e], depth + 1);
            if (first < 0 || first == settling) {
                return first;
            }
            int second = truth(expressions.second[e], depth + 1);
            if (second < 0 || second == settling) {
                return second;
            }
            return first == UNSURE ? UNSURE : second;
        }
    }

    /** The groups of a run with what their aggregates have come to; rows are chained, for DISTINCT to look back. */
    private static final class Groups {
        private final Expressions expressions;
        int groupCount;
        private int rowCount;
        private final long[] keys = new long[MOST_JOINED_ROWS * MOST_GROUPS];
        private final int[] keyNullBits = new int[MOST_JOINED_ROWS];
        private final int[] firstRow = new int[MOST_JOINED_ROWS];
        private final int[] lastRow = new int[MOST_JOINED_ROWS];
        private final int[] nextRow = new int[MOST_JOINED_ROWS];
        private final int[] rowAt = new int[MOST_JOINED_ROWS];
        // What the aggregates are of, row by row, with a bit for each aggregate that counts the row.
        private final long[] numbers = new long[MOST_JOINED_ROWS * MOST_AGGREGATES];
        private final int[] countedBits = new int[MOST_JOINED_ROWS];
        // Group by group: how many the aggregates have counted, and their sum, least or greatest so far.
        private final int[] counts = new int[MOST_JOINED_ROWS * MOST_AGGREGATES];
        private final long[] totals = new long[MOST_JOINED_ROWS * MOST_AGGREGATES];
        private int current;

        Groups(Expressions expressions) {
            this.expressions = expressions;
        }

        void clear(boolean isOne) {
            rowCount = 0;
            groupCount = 0;
            if (isOne) {
                openGroup(0);
            }
        }

        boolean isFull() {
            return rowCount >= MOST_JOINED_ROWS || groupCount >= MOST_JOINED_ROWS;
        }

        /** The next row stands behind all others, and its keys where those of the next group would. */
        void startRow(int[] at) {
            rowAt[rowCount] = pack(at);
            countedBits[rowCount] = 0;
            keyNullBits[groupCount] = 0;
        }

        void setKey(int i, int state, long number) {
            keys[groupCount * MOST_GROUPS + i] = number;
            if (state == NULL) {
                keyNullBits[groupCount] |= 1 << i;
            }
        }

        /** Puts the row into the group of its keys, a new one if there is none such. */
        void placeRow(int keyCount) {
            int group = keyCount == 0 ? 0 : groupOfKeys(keyCount);
            if (group == groupCount) {
                openGroup(group);
            }
            if (firstRow[group] == NONE) {
                firstRow[group] = rowCount;
            } else {
                nextRow[lastRow[group]] = rowCount;
            }
            lastRow[group] = rowCount;
            nextRow[rowCount] = NONE;
            current = group;
        }

        /** What an aggregate is of in the row goes into its group at once, so that a sum goes wrong at this row. */
        int takeNumber(int slot, int state, long number) {
            if (state == NULL || expressions.aggregateDistinct[slot] && wasCounted(slot, number)) {
                return DONE;
            }
            numbers[rowCount * MOST_AGGREGATES + slot] = number;
            countedBits[rowCount] |= 1 << slot;
            int place = current * MOST_AGGREGATES + slot;
            long total = counts[place] == 0 ? number : combine(expressions.aggregateKind[slot], totals[place], number);
            if (total < -MOST_RESULT || total > MOST_RESULT) {
                return TOO_LARGE;
            }
            counts[place]++;
            totals[place] = total;
            return DONE;
        }

        void endRow() {
            rowCount++;
        }

        /** Stands at a group: the sources at its first row. */
        void enter(int group, int[] at) {
            current = group;
            int row = firstRow[group];
            int packed = row == NONE ? 0 : rowAt[row];
            for (int i = 0; i < at.length; i++) {
                at[i] = (packed >> 4 * i & 15) - 1;
            }
        }

        boolean hasResult(int slot) {
            int kind = expressions.aggregateKind[slot];
            return kind == COUNT_ROWS || kind == COUNT_VALUES || counts[current * MOST_AGGREGATES + slot] != 0;
        }

        long resultOf(int slot) {
            int count = counts[current * MOST_AGGREGATES + slot];
            long total = totals[current * MOST_AGGREGATES + slot];
            switch (expressions.aggregateKind[slot]) {
                case COUNT_ROWS:
                case COUNT_VALUES:
                    return count;
                case AVERAGE:
                    return count == 0 ? 0 : total / count;
                default:
                    return total;
            }
        }

        private static long combine(int kind, long total, long number) {
            switch (kind) {
                case SUM:
                case AVERAGE:
                    return total + number;
                case LEAST:
                    return Math.min(total, number);
                case GREATEST:
                    return Math.max(total, number);
                default:
                    return total;
            }
        }

        private void openGroup(int group) {
            firstRow[group] = NONE;
            for (int slot = 0; slot < MOST_AGGREGATES; slot++) {
                counts[group * MOST_AGGREGATES + slot] = 0;
                totals[group * MOST_AGGREGATES + slot] = 0;
            }
            groupCount = group + 1;
        }

        private int groupOfKeys(int keyCount) {
            for (int group = 0; group < groupCount; group++) {
                boolean same = keyNullBits[group] == keyNullBits[groupCount];
                for (int i = 0; same && i < keyCount; i++) {
                    same = keys[group * MOST_GROUPS + i] == keys[groupCount * MOST_GROUPS + i];
                }
                if (same) {
                    return group;
                }
            }
            return groupCount;
        }

        private boolean wasCounted(int slot, long number) {
            int row = firstRow[current];
            for (int i = 0; i < rowCount && row != NONE; i++) {
                if ((countedBits[row] >> slot & 1) != 0 && numbers[row * MOST_AGGREGATES + slot] == number) {
                    return true;
                }
                row = nextRow[row];
            }
            return false;
        }

        private static int pack(int[] at) {
            int packed = 0;
            for (int i = 0; i < at.length; i++) {
                packed |= at[i] + 1 << 4 * i;
            }
            return packed;
        }
    }

    /** Goes through the rows of the sources and gives those of the answer. */
    private static final class Runner {
        private final Tables tables;
        private final Expressions expressions;
        private final Query query;
        private final Answer answer;
        private final Checker checker;
        private final Evaluator evaluator;
        private boolean isGrouped;
        private int usedAggregates;

        Runner(Tables tables, Expressions expressions, Query query, Answer answer) {
            this.tables = tables;
            this.expressions = expressions;
            this.query = query;
            this.answer = answer;
            checker = new Checker(tables, expressions, query);
            evaluator = new Evaluator(tables, expressions, query);
        }

        int prepare() {
            int fault = checker.firstFault();
            if (fault != DONE) {
                return fault;
            }
            isGrouped = checker.isGrouped();
            usedAggregates = checker.lateAggregates();
            if (isGrouped) {
                if (evaluator.groups == null) {
                    evaluator.groups = new Groups(expressions);
                }
                evaluator.groups.clear(query.groupCount == 0);
            }
            return DONE;
        }

        private int joinFrom(int level) {
            if (level >= query.sourceCount) {
                return takeRow();
            }
            int rows = tables.rows[query.sourceTable[level]];
            boolean isJoined = false;
            for (int row = 0; row < rows; row++) {
                evaluator.at[level] = row;
                int match = query.how[level] == FREE_JOIN ? TRUE : evaluator.truth(query.on[level], 0);
                if (match < 0) {
                    return match;
                }
                if (match == TRUE) {
                    isJoined = true;
                    int outcome = joinFrom(level + 1);
                    if (outcome != DONE) {
                        return outcome;
                    }
                }
            }
            if (isJoined || query.how[level] != LEFT_JOIN) {
                return DONE;
            }
            evaluator.at[level] = NONE;
            return joinFrom(level + 1);
        }

        int giveGroups() {
            Groups groups = evaluator.groups;
            if (!isGrouped || groups == null) {
                return DONE;
            }
            for (int group = 0; group < groups.groupCount; group++) {
                groups.enter(group, evaluator.at);
                int match = query.having == NONE ? TRUE : evaluator.truth(query.having, 0);
                int outcome = match == TRUE ? giveRow() : match < 0 ? match : DONE;
                if (outcome != DONE) {
                    return outcome;
                }
            }
            return DONE;
        }

        private int takeRow() {
            int match = query.where == NONE ? TRUE : evaluator.truth(query.where, 0);
            if (match < 0) {
                return match;
            }
            if (match != TRUE) {
                return DONE;
            }
            return isGrouped ? groupRow() : giveRow();
        }

        private int giveRow() {
            if (answer.isFull()) {
                return TOO_MANY_ROWS;
            }
            answer.startRow();
            for (int i = 0; i < query.itemCount; i++) {
                int state = evaluator.value(query.items[i], 0);
                if (state < 0) {
                    return state;
                }
                answer.setItem(i, state, evaluator.number);
            }
            answer.endRow();
            return DONE;
        }

        private int groupRow() {
            Groups groups = evaluator.groups;
            if (groups == null || groups.isFull()) {
                return DONE;
            }
            groups.startRow(evaluator.at);
            for (int i = 0; i < query.groupCount; i++) {
                int state = evaluator.value(query.groups[i], 0);
                if (state < 0) {
                    return state;
                }
                groups.setKey(i, state, evaluator.number);
            }
            groups.placeRow(query.groupCount);
            for (int slot = 0; slot < expressions.aggregateCount; slot++) {
                int outcome = (usedAggregates >> slot & 1) == 0 ? DONE : aggregateRow(groups, slot);
                if (outcome != DONE) {
                    return outcome;
                }
            }
            groups.endRow();
            return DONE;
        }

        private int aggregateRow(Groups groups, int slot) {
            if (expressions.aggregateKind[slot] == COUNT_ROWS) {
                return groups.takeNumber(slot, NUMBER, 0);
            }
            int state = evaluator.value(expressions.aggregateOf[slot], 0);
            return state < 0 ? state : groups.takeNumber(slot, state, evaluator.number);
        }
    }

    /** The rows that a run gives; they are an answer once it has been finished. */
    private static final class Answer {
        int items;
        int shown;
        private int rows;
        private int start;
        private final long[] numbers = new long[MOST_ANSWER_ROWS * MOST_ITEMS];
        private final int[] nullBits = new int[MOST_ANSWER_ROWS];
        private final int[] places = new int[MOST_ANSWER_ROWS];

        void clear() {
            items = 0;
            shown = 0;
            rows = 0;
            start = 0;
        }

        boolean has(int row, int i) {
            return row >= 0 && row < shown && i >= 0 && i < items;
        }

        long numberOf(int row, int i) {
            return numbers[places[start + row] * MOST_ITEMS + i];
        }

        boolean lacks(int row, int i) {
            return isNullAt(places[start + row], i);
        }

        boolean isFull() {
            return rows >= MOST_ANSWER_ROWS;
        }

        void startRow() {
            nullBits[rows] = 0;
        }

        void setItem(int i, int state, long number) {
            numbers[rows * MOST_ITEMS + i] = state == NULL ? 0 : number;
            if (state == NULL) {
                nullBits[rows] |= 1 << i;
            }
        }

        void endRow() {
            rows++;
        }

        void finish(Query query) {
            items = query.itemCount;
            int count = 0;
            for (int row = 0; row < rows; row++) {
                if (!query.distinct || !isRepeated(row)) {
                    insertInOrder(row, count, query);
                    count++;
                }
            }
            start = Math.min(query.skip, count);
            shown = Math.min(query.keep, count - start);
        }

        private boolean isRepeated(int row) {
            for (int before = 0; before < row; before++) {
                boolean same = nullBits[before] == nullBits[row];
                for (int i = 0; same && i < items; i++) {
                    same = numbers[before * MOST_ITEMS + i] == numbers[row * MOST_ITEMS + i];
                }
                if (same) {
                    return true;
                }
            }
            return false;
        }

        // Behind all that are even with it, so that those stay as they were.
        private void insertInOrder(int row, int count, Query query) {
            int place = count;
            while (place > 0 && compare(places[place - 1], row, query) > 0) {
                places[place] = places[place - 1];
                place--;
            }
            places[place] = row;
        }

        private int compare(int a, int b, Query query) {
            for (int k = 0; k < query.orderCount; k++) {
                int i = query.orderItem[k];
                int way = compareItem(a, b, i);
                if (way != 0) {
                    return query.orderDown[k] ? -way : way;
                }
            }
            return 0;
        }

        private int compareItem(int a, int b, int i) {
            boolean aIsNull = isNullAt(a, i);
            boolean bIsNull = isNullAt(b, i);
            if (aIsNull || bIsNull) {
                return aIsNull && bIsNull ? 0 : aIsNull ? -1 : 1;
            }
            return Long.compare(numbers[a * MOST_ITEMS + i], numbers[b * MOST_ITEMS + i]);
        }

        private boolean isNullAt(int place, int i) {
            return (nullBits[place] >> i & 1) != 0;
        }
    }
}
