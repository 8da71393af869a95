/** SOURCES and WHERE: a test for each sentence that names an edge, or what is worked out first. */
public final class SourcesEdgesTest {
    private static final long NULL = Given.NULL;
    private static final Due due = new Due("SourcesEdgesTest");

    public static void main(String[] args) {
        tablesInTheirOrder();
        eachWithEach();
        emptyTables();
        matching();
        matchingNone();
        rowsOfNulls();
        noRowOfNullsWhereThereIsOne();
        rowsOfNullsOfAllColumns();
        rowsOfNullsBehindEmpty();
        goneThroughInOrder();
        onAsSoonAsItCan();
        onOfWhatDoesNotGoTogether();
        onOfRowsOfNulls();
        onOfItsOwnRowOfNulls();
        onOfConstants();
        mostRows();
        where();
        whereOfNothing();
        whereOfRowsOfNulls();
        rowByRow();
        rowByRowWithOn();
        rowByRowGrouped();
        itemsInOrder();
        due.end();
    }

    private static long[] rows(long... values) {
        return values;
    }

    private static QueryRunner tables(long[]... tables) {
        return Given.tables(tables);
    }

    private static void items(QueryRunner x, int count) {
        for (int i = 0; i < count; i++) {
            x.item(i);
        }
    }

    private static void tablesInTheirOrder() {
        due.says("SOURCES 0 .. 2 are tables, in their order");
        QueryRunner x = tables(rows(1), rows(2), rows(3));
        x.source(2, 0, -1);
        x.source(0, 0, -1);
        x.source(1, 0, -1);
        items(x, 3);
        due.answers("three tables", x, "3 1 2");
        QueryRunner y = tables(rows(4, 5));
        y.source(0, 0, -1);
        y.source(0, 1, y.op(5, 0, 1));
        y.source(0, 1, y.op(5, 0, 2));
        items(y, 3);
        due.answers("one table three times", y, "4 4 4", "5 5 5");
        y.insert(0, 6, 0, 0, 0, 0);
        due.answers("a row that came behind source()", y, "4 4 4", "5 5 5", "6 6 6");
    }

    private static void eachWithEach() {
        due.says("of how 0 each row goes with each");
        QueryRunner x = tables(rows(1, NULL), rows(NULL, 1));
        x.source(0, 0, -1);
        x.source(1, 0, -1);
        items(x, 2);
        due.answers("NULLs too", x, "1 -", "1 1", "- -", "- 1");
    }

    private static void emptyTables() {
        due.says("of how 0 each row goes with each: with none, none");
        for (int empty = 0; empty < 3; empty++) {
            QueryRunner x = tables(rows(1, 2), rows());
            for (int i = 0; i < 3; i++) {
                x.source(i == empty ? 1 : 0, 0, -1);
            }
            x.item(x.constant(1, false));
            due.answers("source " + empty + " is empty", x);
            due.is("an answer all the same", x.answer(1), 1);
        }
        QueryRunner x = Given.numbers();
        x.item(0);
        due.answers("the only one is empty", x);
    }

    private static void matching() {
        due.says("of 1 with those for which its ON is TRUE");
        QueryRunner x = tables(rows(1, NULL, 2), rows(2, 1, NULL, 2));
        x.source(0, 0, -1);
        x.source(1, 1, x.op(5, 0, 1));
        items(x, 2);
        due.answers("not those for which it is FALSE or UNKNOWN", x, "1 1", "2 2", "2 2");
        QueryRunner y = tables(rows(1, NULL), rows(2, NULL));
        y.source(0, 0, -1);
        y.source(1, 1, y.op(11, y.op(5, 0, 1), 0));
        items(y, 2);
        due.answers("NOT UNKNOWN is not TRUE", y, "1 2");
    }

    private static void matchingNone() {
        due.says("of 1 with those for which its ON is TRUE: with none, none");
        QueryRunner x = tables(rows(1), rows(2), rows());
        int never = Given.never(x);
        x.source(0, 0, -1);
        x.source(1, 1, never);
        items(x, 2);
        due.answers("never", x);
        QueryRunner y = tables(rows(1), rows());
        y.source(0, 0, -1);
        y.source(1, 1, Given.always(y));
        items(y, 2);
        due.answers("an empty table", y);
    }

    private static void rowsOfNulls() {
        due.says("of 2 likewise, and with a row of NULLs, when there is none");
        QueryRunner x = tables(rows(1, NULL, 2, 3), rows(2, NULL, 3, 2));
        x.source(0, 0, -1);
        x.source(1, 2, x.op(5, 0, 1));
        items(x, 2);
        due.answers("for each row by itself", x, "1 -", "- -", "2 2", "2 2", "3 3");
        QueryRunner y = tables(rows(1, 2), rows());
        y.source(0, 0, -1);
        y.source(1, 2, Given.always(y));
        items(y, 2);
        due.answers("an empty table", y, "1 -", "2 -");
        QueryRunner z = tables(rows(1), rows(2), rows(3));
        z.source(0, 0, -1);
        z.source(1, 2, Given.never(z));
        z.source(2, 2, Given.never(z));
        items(z, 3);
        due.answers("twice", z, "1 - -");
    }

    private static void noRowOfNullsWhereThereIsOne() {
        due.says("with a row of NULLs, when there is none, and only then");
        QueryRunner x = tables(rows(1), rows(1, 2), rows());
        x.source(0, 0, -1);
        x.source(1, 2, x.op(5, 0, 1));
        items(x, 2);
        due.answers("the last one is not TRUE", x, "1 1");
        x.condition(0, x.op(12, 1, 0));
        due.answers("WHERE brings none", x);
        QueryRunner y = tables(rows(1), rows(2, 1));
        y.source(0, 0, -1);
        y.source(1, 2, y.op(5, 0, 1));
        items(y, 2);
        due.answers("the first one is not TRUE", y, "1 1");
        QueryRunner z = tables(rows(1), rows(1), rows());
        z.source(0, 0, -1);
        z.source(1, 2, Given.always(z));
        z.source(2, 0, -1);
        z.item(0);
        due.answers("a later source that has no row brings none", z);
    }

    private static void rowsOfNullsOfAllColumns() {
        due.says("a row of NULLs: all its columns");
        QueryRunner x = new QueryRunner();
        x.table(4);
        x.insert(0, 1, 2, 3, 4, 0);
        x.source(0, 0, -1);
        x.source(0, 2, Given.never(x));
        for (int i = 0; i < 4; i++) {
            x.item(x.column(1, i));
        }
        x.item(x.column(0, 3));
        due.answers("four columns", x, "- - - - 4");
    }

    private static void rowsOfNullsBehindEmpty() {
        due.says("for each row of the first: without one, no row of NULLs");
        QueryRunner x = tables(rows(), rows(1));
        x.source(0, 0, -1);
        x.source(1, 2, Given.always(x));
        items(x, 2);
        due.answers("the first is empty", x);
        QueryRunner y = tables(rows(1), rows(), rows(2));
        y.source(0, 0, -1);
        y.source(1, 1, Given.always(y));
        y.source(2, 2, Given.always(y));
        items(y, 3);
        due.answers("the second has none", y);
    }

    private static void goneThroughInOrder() {
        due.says("for each row of the first, in order, each of the second, and so on");
        QueryRunner x = tables(rows(2, 1), rows(4, 3), rows(6, 5));
        x.source(0, 0, -1);
        x.source(1, 0, -1);
        x.source(2, 0, -1);
        items(x, 3);
        due.answers("three", x, "2 4 6", "2 4 5", "2 3 6", "2 3 5", "1 4 6", "1 4 5", "1 3 6", "1 3 5");
    }

    // The ON of source 1 goes wrong in its second row: what that comes before and behind can be seen.
    private static void onAsSoonAsItCan() {
        due.says("an ON is worked out for a row as soon as the sources up to its own have one that go together");
        QueryRunner x = new QueryRunner();
        x.table(1);
        x.insert(0, 1, 0, 0, 0, 0);
        int trapped = Traps.table(x, "d");
        int empty = x.table(1);
        Traps traps = new Traps(x, 1);
        x.source(0, 0, -1);
        x.source(trapped, 1, traps.dividedTruth);
        x.source(empty, 0, -1);
        x.item(traps.key);
        due.ends("though a later source has no row", x, -20);
        QueryRunner y = new QueryRunner();
        Traps.table(y, "h");
        Traps.table(y, "d");
        Traps first = new Traps(y, 1);
        Traps second = new Traps(y, 2);
        y.source(1, 0, -1);
        y.source(0, 1, first.hugeTruth);
        y.source(1, 1, second.dividedTruth);
        y.item(first.key);
        due.ends("the ON of the second before that of the third", y, -21);
    }

    private static void onOfWhatDoesNotGoTogether() {
        due.says("an ON is worked out for what goes together alone");
        for (int how = 1; how <= 2; how++) {
            QueryRunner x = tables(rows(1), rows(2), rows(3));
            x.source(0, 0, -1);
            x.source(1, 1, Given.never(x));
            x.source(2, how, Given.asTruth(x, Given.divided(x)));
            x.item(0);
            due.answers("the second does not go with the first, how " + how, x);
            QueryRunner y = tables(rows(), rows(2));
            y.source(0, 0, -1);
            y.source(1, how, Given.asTruth(y, Given.divided(y)));
            y.item(0);
            due.answers("the first has no row, how " + how, y);
        }
        QueryRunner z = tables(rows(1), rows());
        z.source(0, 0, -1);
        z.source(1, 1, Given.asTruth(z, Given.divided(z)));
        z.item(0);
        due.answers("its own table has no row", z);
    }

    private static void onOfRowsOfNulls() {
        due.says("(a row of NULLs among them, too");
        QueryRunner x = tables(rows(1), rows(2), rows(3, 4));
        x.source(0, 0, -1);
        x.source(1, 2, Given.never(x));
        x.source(2, 1, x.op(12, 1, 0));
        items(x, 3);
        due.answers("ON sees it", x, "1 - 3", "1 - 4");
        QueryRunner y = tables(rows(1), rows(), rows(3));
        y.source(0, 0, -1);
        y.source(1, 2, Given.always(y));
        y.source(2, 2, Given.asTruth(y, Given.huge(y)));
        y.item(0);
        due.ends("ON goes wrong for it", y, -21);
        QueryRunner z = tables(rows(1), rows(2), rows(3));
        z.source(0, 0, -1);
        z.source(1, 2, Given.never(z));
        z.source(2, 2, z.op(5, 1, 2));
        items(z, 3);
        due.answers("UNKNOWN for it", z, "1 - -");
    }

    private static void onOfItsOwnRowOfNulls() {
        due.says("for its own row of NULLs it is not)");
        QueryRunner x = tables(rows(1, 2), rows());
        x.source(0, 0, -1);
        x.source(1, 2, Given.asTruth(x, Given.divided(x)));
        items(x, 2);
        due.answers("an empty table, an ON that would go wrong", x, "1 -", "2 -");
        QueryRunner y = tables(rows(1), rows(5));
        y.source(0, 0, -1);
        int isNull = y.op(12, 1, 0);
        y.source(1, 2, y.op(9, isNull, Given.asTruth(y, Given.divided(y))));
        items(y, 2);
        due.answers("FALSE for its rows, wrong for NULLs", y, "1 -");
        QueryRunner z = tables(rows(1), rows(5));
        z.source(0, 0, -1);
        z.source(1, 2, z.op(11, z.op(12, 1, 0), 0));
        items(z, 2);
        due.answers("TRUE for its row", z, "1 5");
        QueryRunner w = tables(rows(1), rows(5));
        w.source(0, 0, -1);
        w.source(1, 2, w.op(5, 1, w.constant(6, false)));
        items(w, 2);
        due.answers("FALSE for its row, UNKNOWN for NULLs", w, "1 -");
    }

    private static void onOfConstants() {
        due.says("ON may be any truth: of earlier sources alone, of none");
        QueryRunner x = tables(rows(1, 2), rows(5, 6));
        x.source(0, 0, -1);
        x.source(1, 2, x.op(5, 0, x.constant(2, false)));
        items(x, 2);
        due.answers("of the first source alone", x, "1 -", "2 5", "2 6");
        QueryRunner y = tables(rows(1, 2), rows(5, 6));
        y.source(0, 0, -1);
        y.source(1, 1, Given.always(y));
        items(y, 2);
        due.answers("of none", y, "1 5", "1 6", "2 5", "2 6");
    }

    private static void mostRows() {
        due.says("three sources of eight rows: 512 go together");
        QueryRunner x = Given.manyRows();
        x.item(x.aggregate(0, 0, false));
        x.item(x.aggregate(4, Given.CODE, false));
        x.item(x.aggregate(1, Given.CODE, true));
        due.answers("all of them", x, "512 511 512");
        x.fresh();
        x.source(0, 0, -1);
        x.source(0, 2, Given.never(x));
        x.source(0, 2, Given.always(x));
        x.item(x.aggregate(0, x.column(0, 0), false));
        x.item(x.aggregate(1, x.column(1, 0), false));
        due.answers("rows of NULLs between", x, "64 0");
    }

    private static void where() {
        due.says("those for which WHERE (if there is one) is TRUE");
        QueryRunner x = Given.numbers(1, NULL, 2);
        x.item(0);
        due.answers("there is none", x, "1", "-", "2");
        x.condition(0, x.op(6, 0, x.constant(1, false)));
        due.answers("FALSE, UNKNOWN, TRUE", x, "2");
        x.condition(0, x.op(11, x.op(6, 0, x.constant(1, false)), 0));
        due.answers("NOT of it", x, "1");
        x.condition(0, Given.never(x));
        due.answers("never", x);
        x.condition(0, x.op(5, x.constant(0, true), 0));
        due.answers("always UNKNOWN", x);
    }

    private static void whereOfNothing() {
        due.says("WHERE is worked out for what goes together alone");
        QueryRunner x = Given.numbers();
        x.item(0);
        x.condition(0, Given.asTruth(x, Given.divided(x)));
        due.answers("no row", x);
        QueryRunner y = tables(rows(1), rows());
        y.source(0, 0, -1);
        y.source(1, 0, -1);
        y.item(Given.divided(y));
        y.condition(0, Given.asTruth(y, Given.divided(y)));
        due.answers("no row of the second", y);
        QueryRunner z = Given.numbers(1);
        z.item(Given.divided(z));
        z.condition(0, Given.never(z));
        due.answers("no items for what WHERE leaves out", z);
    }

    private static void whereOfRowsOfNulls() {
        due.says("WHERE comes behind the row of NULLs");
        QueryRunner x = tables(rows(1, 2), rows(2));
        x.source(0, 0, -1);
        x.source(1, 2, x.op(5, 0, 1));
        items(x, 2);
        x.condition(0, x.op(12, 1, 0));
        due.answers("NULLs alone", x, "1 -");
        x.condition(0, x.op(5, 1, 1));
        due.answers("UNKNOWN for NULLs", x, "2 2");
    }

    // What the WHERE and the item of a single source are of decides which goes wrong first.
    private static QueryRunner trapped(String rows) {
        QueryRunner x = new QueryRunner();
        Traps.table(x, rows);
        x.source(0, 0, -1);
        return x;
    }

    private static void rowByRow() {
        due.says("as soon as rows of all sources go together their WHERE is worked out, then their items");
        String[] rows = {"b", "hd", "dh", ".hd", ".dh"};
        int[] dividedFirst = {-20, -21, -20, -21, -20};
        for (int i = 0; i < rows.length; i++) {
            QueryRunner x = trapped(rows[i]);
            Traps traps = new Traps(x, 0);
            x.condition(0, traps.dividedTruth);
            x.item(traps.huge);
            due.ends("/ in WHERE, * in an item, rows " + rows[i], x, dividedFirst[i]);
            QueryRunner y = trapped(rows[i]);
            Traps others = new Traps(y, 0);
            y.condition(0, others.hugeTruth);
            y.item(others.divided);
            due.ends("* in WHERE, / in an item, rows " + rows[i], y, i == 0 ? -21 : dividedFirst[i]);
        }
    }

    private static void rowByRowWithOn() {
        due.says("their WHERE is worked out, then their items, before the next ON");
        for (int place = 0; place <= 1; place++) {
            QueryRunner x = new QueryRunner();
            Traps.table(x, ".");
            Traps.table(x, "hd");
            Traps traps = new Traps(x, 1);
            x.source(0, 0, -1);
            x.source(1, 1, traps.dividedTruth);
            x.item(place == 0 ? traps.huge : traps.key);
            if (place == 1) {
                x.condition(0, traps.hugeTruth);
            }
            due.ends(place == 0 ? "an item first" : "WHERE first", x, -21);
            QueryRunner y = new QueryRunner();
            Traps.table(y, ".");
            Traps.table(y, "dh");
            Traps others = new Traps(y, 1);
            y.source(0, 0, -1);
            y.source(1, 1, others.dividedTruth);
            y.item(place == 0 ? others.huge : others.key);
            if (place == 1) {
                y.condition(0, others.hugeTruth);
            }
            due.ends("the ON first", y, -20);
        }
        QueryRunner z = new QueryRunner();
        Traps.table(z, ".");
        Traps.table(z, "b");
        Traps both = new Traps(z, 1);
        z.source(0, 0, -1);
        z.source(1, 1, both.hugeTruth);
        z.item(both.divided);
        due.ends("the ON of the row itself", z, -21);
    }

    private static void rowByRowGrouped() {
        due.says("in a GROUPED query, their groups and what aggregates are of, before the next ON");
        for (int place = 0; place <= 1; place++) {
            QueryRunner x = new QueryRunner();
            Traps.table(x, ".");
            Traps.table(x, "hd");
            Traps traps = new Traps(x, 1);
            x.source(0, 0, -1);
            x.source(1, 1, traps.dividedTruth);
            if (place == 0) {
                x.group(traps.huge);
                x.item(traps.huge);
            } else {
                x.item(x.aggregate(4, traps.huge, false));
            }
            due.ends(place == 0 ? "a group first" : "what an aggregate is of first", x, -21);
            QueryRunner y = new QueryRunner();
            Traps.table(y, "hd");
            Traps own = new Traps(y, 0);
            y.source(0, 0, -1);
            y.condition(0, own.dividedTruth);
            if (place == 0) {
                y.group(own.huge);
                y.item(own.huge);
            } else {
                y.item(y.aggregate(4, own.huge, false));
            }
            due.ends("before the next row's WHERE", y, -21);
        }
        QueryRunner z = trapped("b");
        Traps both = new Traps(z, 0);
        z.condition(0, both.dividedTruth);
        z.group(both.huge);
        z.item(both.huge);
        due.ends("behind its own WHERE", z, -20);
    }

    private static void itemsInOrder() {
        due.says("ITEMS: items in their order");
        QueryRunner x = trapped(".b");
        Traps traps = new Traps(x, 0);
        x.item(traps.key);
        x.item(traps.divided);
        x.item(traps.huge);
        due.ends("/ first", x, -20);
        QueryRunner y = trapped(".b");
        Traps others = new Traps(y, 0);
        y.item(others.key);
        y.item(others.huge);
        y.item(others.divided);
        due.ends("* first", y, -21);
        QueryRunner z = trapped("dh");
        Traps last = new Traps(z, 0);
        z.item(last.huge);
        z.item(last.divided);
        due.ends("all items of a row before the next row's", z, -20);
    }
}
