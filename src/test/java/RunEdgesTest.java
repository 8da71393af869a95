/** Promise 15, A RUN: a test for each sentence that says what is not right, and which of it is first. */
public final class RunEdgesTest {
    private static final Due due = new Due("RunEdgesTest");
    private static final String[] PLACES = {"an item", "a group", "WHERE", "HAVING", "an aggregate in an item",
        "an aggregate in HAVING", "a second item"};

    public static void main(String[] args) {
        noSource();
        noItem();
        sourceThatThereIsNot();
        columnThatItsTableHasNot();
        allThatItIsPutTogetherOf();
        notInUse();
        onOfLaterSources();
        onOfColumnsItsTableHasNot();
        aggregateInOn();
        aggregateInWhere();
        aggregateInGroup();
        aggregateElsewhere();
        looseColumns();
        looseColumnsInHaving();
        notGroupedNotLoose();
        columnsInAggregates();
        partsLikeGroups();
        partsUnlikeGroups();
        onAndWhereAreNotLooked();
        firstOfAll();
        withoutAnyRow();
        twoHundredRows();
        rowsBeforeAnyIsLeftOut();
        itemsOfThe201st();
        whereOfThe201st();
        wrongBeforeThe201st();
        groupsAndThe201st();
        noAnswerBehind();
        runAgain();
        oneQueryBehindAnother();
        due.end();
    }

    private static QueryRunner start() {
        QueryRunner x = new QueryRunner();
        x.table(2);
        x.table(1);
        x.insert(0, 1, 2, 0, 0, 0);
        x.insert(1, 3, 0, 0, 0, 0);
        return x;
    }

    private static void noSource() {
        due.says("-1 there is no source");
        QueryRunner x = start();
        due.ends("nothing at all", x, -1);
        x.item(x.constant(1, false));
        due.ends("an item", x, -1);
        x.group(0);
        x.condition(0, Given.always(x));
        due.ends("all but a source", x, -1);
        x.source(1, 0, -1);
        due.answers("a source", x, "1");
    }

    private static void noItem() {
        due.says("-1 there is no item");
        QueryRunner x = start();
        x.source(0, 0, -1);
        due.ends("a source", x, -1);
        x.group(x.column(0, 0));
        x.condition(1, Given.always(x));
        due.ends("all but an item", x, -1);
        x.item(x.constant(1, false));
        due.answers("an item", x, "1");
    }

    // Puts a value where it is in use, in one of PLACES.
    private static void place(QueryRunner x, int place, int value) {
        int count = x.constant(1, false);
        switch (place) {
            case 0 -> x.item(value);
            case 1 -> x.group(value);
            case 2 -> x.condition(0, x.op(12, value, 0));
            case 3 -> x.condition(1, x.op(12, value, 0));
            case 4 -> x.item(x.aggregate(2, value, false));
            case 5 -> x.condition(1, x.op(12, x.aggregate(1, value, true), 0));
            default -> {
                x.item(count);
                x.item(value);
            }
        }
        x.item(count);
    }

    private static void sourceThatThereIsNot() {
        due.says("-11 an expression in use has a column of a source that there is not");
        for (int place = 0; place < PLACES.length; place++) {
            for (int sources = 1; sources <= 3; sources++) {
                for (int source = 0; source <= 2; source++) {
                    QueryRunner x = start();
                    place(x, place, x.column(source, 0));
                    for (int i = 0; i < sources; i++) {
                        x.source(0, 0, -1);
                    }
                    String what = PLACES[place] + ", source " + source + " of " + sources;
                    int got = x.run();
                    due.is(what, got == -11, source >= sources);
                }
            }
        }
    }

    private static void columnThatItsTableHasNot() {
        due.says("-11 or that its table has not");
        for (int place = 0; place < PLACES.length; place++) {
            for (int width = 1; width <= 4; width++) {
                for (int column = 0; column <= 3; column++) {
                    QueryRunner x = new QueryRunner();
                    x.table(width);
                    x.table(width == 4 ? 1 : 4);
                    place(x, place, x.column(1, column));
                    x.source(1, 0, -1);
                    x.source(0, 0, -1);
                    String what = PLACES[place] + ", column " + column + " of " + width;
                    due.is(what, x.run() == -11, column >= width);
                }
            }
        }
    }

    private static void allThatItIsPutTogetherOf() {
        due.says("-11 (all that it is put together of)");
        for (int place = 0; place < PLACES.length; place++) {
            for (int side = 0; side <= 1; side++) {
                QueryRunner x = start();
                x.source(0, 0, -1);
                int wrong = x.column(1, 0);
                int one = x.constant(1, false);
                int deep = x.op(0, side == 0 ? x.op(1, wrong, one) : one, side == 0 ? one : x.op(1, one, wrong));
                place(x, place, deep);
                due.ends(PLACES[place] + ", side " + side, x, -11);
            }
        }
        QueryRunner x = start();
        x.source(1, 0, -1);
        x.item(x.aggregate(0, x.column(0, 1), false));
        due.ends("of aggregate 0 too", x, -11);
        QueryRunner y = start();
        y.source(1, 0, -1);
        y.item(y.column(0, 0));
        int settled = y.op(10, Given.always(y), y.op(12, y.column(2, 0), 0));
        y.condition(0, settled);
        due.ends("of what would not be worked out", y, -11);
    }

    private static void notInUse() {
        due.says("-11 an expression in use, and no other");
        QueryRunner x = start();
        x.source(1, 0, -1);
        int column = x.column(2, 3);
        x.op(12, column, 0);
        x.op(0, column, column);
        x.aggregate(2, column, false);
        x.item(x.column(0, 0));
        due.answers("not in use", x, "3");
        x.condition(0, 1);
        due.ends("in use", x, -11);
        x.condition(0, Given.always(x));
        due.answers("no more in use", x, "3");
        x.condition(1, 1);
        due.ends("in use again", x, -11);
    }

    private static void onOfLaterSources() {
        due.says("-11 (in an ON: that is not before or at it)");
        for (int how = 1; how <= 2; how++) {
            for (int on = 1; on <= 2; on++) {
                for (int source = 0; source <= 2; source++) {
                    QueryRunner x = start();
                    int truth = x.op(5, x.column(source, 0), x.column(source, 0));
                    x.source(0, 0, -1);
                    if (on == 1) {
                        x.source(0, how, truth);
                        x.source(0, 0, -1);
                    } else {
                        x.source(0, 0, -1);
                        x.source(0, how, truth);
                    }
                    x.item(x.column(0, 1));
                    due.is("ON of " + on + ", how " + how + ", source " + source, x.run(), source > on ? -11 : 1);
                }
            }
        }
    }

    private static void onOfColumnsItsTableHasNot() {
        due.says("-11 in an ON: a column that its table has not");
        for (int column = 0; column <= 3; column++) {
            QueryRunner x = start();
            int own = x.column(1, column);
            x.source(1, 0, -1);
            x.source(0, 2, x.op(11, x.op(12, own, 0), 0));
            x.item(x.constant(1, false));
            due.is("its own, column " + column, x.run(), column > 1 ? -11 : 1);
            QueryRunner y = start();
            int before = y.column(0, column);
            y.source(1, 0, -1);
            y.source(0, 2, y.op(11, y.op(12, before, 0), 0));
            y.item(y.constant(1, false));
            due.is("one before, column " + column, y.run(), column > 0 ? -11 : 1);
        }
    }

    private static void aggregateInOn() {
        due.says("-12 an aggregate in ON");
        for (int on = 1; on <= 2; on++) {
            for (int how = 1; how <= 2; how++) {
                QueryRunner x = start();
                int count = x.aggregate(0, x.column(0, 0), false);
                x.source(0, 0, -1);
                if (on == 2) {
                    x.source(0, 0, -1);
                }
                x.source(0, how, x.op(11, x.op(5, x.op(0, count, count), count), 0));
                x.item(x.constant(1, false));
                due.ends("ON of " + on + ", how " + how, x, -12);
            }
        }
    }

    private static void aggregateInWhere() {
        due.says("-12 an aggregate in WHERE");
        QueryRunner x = start();
        int count = x.aggregate(0, x.column(0, 0), false);
        x.source(0, 0, -1);
        x.item(count);
        due.answers("in an item", x, "1");
        x.condition(0, x.op(9, Given.never(x), x.op(5, x.constant(1, false), count)));
        due.ends("deep in WHERE", x, -12);
        x.condition(0, Given.always(x));
        due.answers("another WHERE", x, "1");
    }

    private static void aggregateInGroup() {
        due.says("-12 an aggregate in a group");
        for (int place = 1; place <= 4; place++) {
            QueryRunner x = start();
            int value = x.column(0, 0);
            int count = x.aggregate(0, value, false);
            x.source(0, 0, -1);
            x.item(count);
            for (int i = 1; i < place; i++) {
                x.group(value);
            }
            due.is("it is taken", x.group(place % 2 == 0 ? count : x.op(0, value, count)), place);
            due.ends("group " + place, x, -12);
        }
    }

    private static void aggregateElsewhere() {
        due.says("-12 an aggregate in ON, WHERE or a group, and nowhere else");
        QueryRunner x = start();
        int sum = x.aggregate(2, x.column(0, 1), false);
        x.source(0, 0, -1);
        x.item(x.op(0, sum, sum));
        x.condition(1, x.op(5, sum, x.constant(2, false)));
        x.order(0, true);
        due.answers("in an item, a having, an order", x, "4");
    }

    private static void looseColumns() {
        due.says("-13 a GROUPED query has in an item a column that is neither in an aggregate nor in a part like a group");
        for (int cause = 0; cause <= 2; cause++) {
            QueryRunner x = start();
            int a = x.column(0, 0);
            int b = x.column(0, 1);
            x.source(0, 0, -1);
            x.item(b);
            due.answers("not grouped", x, "2");
            if (cause == 0) {
                x.group(a);
            } else if (cause == 1) {
                x.condition(1, Given.always(x));
            } else {
                x.item(x.aggregate(0, a, false));
            }
            due.ends("grouped, cause " + cause, x, -13);
        }
        QueryRunner x = start();
        int a = x.column(0, 0);
        int b = x.column(0, 1);
        x.source(0, 0, -1);
        x.group(a);
        x.item(x.op(0, a, x.op(2, a, a)));
        due.answers("the group's column", x, "2");
        x.item(x.op(0, a, x.op(2, a, b)));
        due.ends("another deep in the last item", x, -13);
    }

    private static void looseColumnsInHaving() {
        due.says("-13 a GROUPED query has in its having a column");
        QueryRunner x = start();
        int a = x.column(0, 0);
        int b = x.column(0, 1);
        x.source(0, 0, -1);
        x.item(x.constant(1, false));
        x.condition(1, x.op(5, a, a));
        due.ends("no group", x, -13);
        x.group(a);
        due.answers("a group", x, "1");
        x.condition(1, x.op(9, x.op(5, a, a), x.op(11, x.op(12, x.op(1, a, b), 0), 0)));
        due.ends("another column, deep", x, -13);
        x.group(b);
        due.answers("another group", x, "1");
    }

    private static void notGroupedNotLoose() {
        due.says("-13 a GROUPED query, and no other");
        QueryRunner x = start();
        int a = x.column(0, 0);
        x.aggregate(0, a, false);
        x.source(0, 0, -1);
        x.item(a);
        x.item(x.column(0, 1));
        x.condition(0, x.op(5, a, a));
        x.order(1, false);
        due.answers("columns as they are", x, "1 2");
    }

    private static void columnsInAggregates() {
        due.says("-13 (an aggregate's own expression is not looked at here)");
        QueryRunner x = start();
        int a = x.column(0, 0);
        int b = x.column(0, 1);
        x.source(0, 0, -1);
        x.item(x.aggregate(2, x.op(0, a, b), false));
        x.item(x.op(0, x.aggregate(2, b, false), x.aggregate(4, x.op(2, b, b), true)));
        due.answers("without groups", x, "3 6");
        x.group(a);
        x.condition(1, x.op(5, x.aggregate(3, b, false), x.constant(2, false)));
        due.answers("with groups", x, "3 6");
    }

    private static void partsLikeGroups() {
        due.says("-13 a part that is put together just like a group");
        QueryRunner x = Given.pairs(1, 5, 2, 5, 1, 5);
        int sum = x.op(0, 0, x.constant(3, false));
        x.group(x.op(2, sum, x.constant(2, false)));
        x.item(x.op(2, x.op(0, x.column(0, 0), x.constant(3, false)), x.constant(2, false)));
        due.answers("made anew", x, "8", "10");
        x.item(x.op(1, x.op(2, sum, x.constant(2, false)), x.aggregate(0, 0, false)));
        due.answers("a part of an item", x, "8 6", "10 9");
        x.condition(1, x.op(7, x.constant(9, false), x.op(2, sum, x.constant(2, false))));
        due.answers("a part of a having", x, "10 9");
        x.item(sum);
        due.ends("a part of the group alone", x, -13);
        QueryRunner y = Given.pairs(1, 5, 2, 5, 1, 5);
        y.group(1);
        y.group(0);
        y.item(y.op(0, y.column(0, 1), y.column(0, 0)));
        due.answers("two groups", y, "6", "7");
        QueryRunner z = Given.pairs(1, 5, 2, 5, 1, 5);
        z.group(0);
        z.group(0);
        z.group(0);
        z.group(1);
        z.item(1);
        due.answers("the fourth group", z, "5", "5");
    }

    private static void partsUnlikeGroups() {
        due.says("-13 a part that is put together just like a group, and no other");
        for (int other = 0; other < 6; other++) {
            QueryRunner x = Given.pairs(1, 5, 2, 5, 1, 5);
            x.source(0, 0, -1);
            x.group(x.op(0, 0, x.constant(3, false)));
            int unlike = switch (other) {
                case 0 -> x.op(0, x.constant(3, false), 0);
                case 1 -> x.op(1, 0, x.constant(3, false));
                case 2 -> x.op(0, 0, x.constant(4, false));
                case 3 -> x.op(0, 1, x.constant(3, false));
                case 4 -> x.op(0, x.column(1, 0), x.constant(3, false));
                default -> x.op(0, 0, x.constant(3, true));
            };
            x.item(unlike);
            due.ends("unlike, case " + other, x, -13);
        }
        QueryRunner y = Given.pairs(1, 5);
        y.group(y.constant(1, false));
        y.item(0);
        due.ends("the value of a group is not its making", y, -13);
    }

    private static void onAndWhereAreNotLooked() {
        due.says("-13 in an item or its having, not in ON, WHERE");
        QueryRunner x = start();
        int a = x.column(0, 0);
        int b = x.column(1, 0);
        x.source(0, 0, -1);
        x.source(0, 1, x.op(5, a, b));
        x.condition(0, x.op(8, b, a));
        x.item(x.aggregate(0, a, false));
        due.answers("columns in ON and WHERE", x, "1");
    }

    private static void firstOfAll() {
        due.says("A RUN: the first of these");
        QueryRunner x = start();
        int a = x.column(0, 0);
        int count = x.aggregate(0, a, false);
        x.condition(0, Given.asTruth(x, Given.divided(x)));
        x.source(0, 0, -1);
        due.is("an item", x.item(x.constant(1, false)), 0);
        due.ends("what goes wrong", x, -20);
        x.group(x.constant(1, false));
        x.item(a);
        due.ends("-13 before it", x, -13);
        x.group(count);
        due.ends("-12 before -13", x, -12);
        x.item(x.column(2, 0));
        due.ends("-11 before -12", x, -11);
        QueryRunner y = start();
        y.source(0, 0, -1);
        y.group(y.aggregate(0, y.column(2, 0), false));
        y.condition(1, y.op(12, y.column(0, 0), 0));
        due.ends("-1 before all", y, -1);
        y.item(0);
        due.ends("-11 of the aggregate", y, -11);
        y.source(0, 0, -1);
        y.source(0, 0, -1);
        due.ends("then -12", y, -12);
        QueryRunner z = start();
        int early = z.op(12, z.aggregate(0, z.constant(1, false), false), 0);
        z.source(0, 0, -1);
        z.source(0, 1, early);
        z.item(z.column(0, 0));
        z.condition(1, z.op(12, z.column(0, 3), 0));
        due.ends("-11 in having before -12 in ON", z, -11);
        z.condition(1, z.op(12, z.column(0, 1), 0));
        due.ends("-12 in ON before -13", z, -12);
    }

    private static void withoutAnyRow() {
        due.says("A RUN: -11, -12 and -13 come before any row, also when there is none");
        QueryRunner x = Given.numbers();
        x.item(x.column(0, 1));
        due.ends("-11", x, -11);
        QueryRunner y = Given.numbers();
        y.item(0);
        y.condition(0, y.op(12, y.aggregate(0, 0, false), 0));
        due.ends("-12", y, -12);
        QueryRunner z = Given.numbers();
        z.item(0);
        z.item(z.aggregate(0, 0, false));
        due.ends("-13", z, -13);
        QueryRunner w = Given.numbers();
        w.item(Given.divided(w));
        due.answers("nothing goes wrong without a row", w);
    }

    // The first rows of 512, up to the one that has this number.
    private static QueryRunner rowsUpTo(int last) {
        QueryRunner x = Given.manyRows();
        x.condition(0, x.op(8, Given.CODE, x.constant(last, false)));
        x.item(Given.CODE);
        return x;
    }

    private static void twoHundredRows() {
        due.says("the 201st row of the answer (-15)");
        QueryRunner x = rowsUpTo(199);
        due.is("200 rows", x.run(), 200);
        due.is("all of them", x.answer(0), 200);
        due.is("the first", x.cell(0, 0), 0);
        due.is("the last", x.cell(199, 0), 199);
        due.is("none behind it", x.cell(200, 0), 0);
        due.ends("201 rows", rowsUpTo(200), -15);
        due.ends("512 rows", rowsUpTo(511), -15);
        QueryRunner y = rowsUpTo(198);
        due.is("199 rows", y.run(), 199);
        QueryRunner z = Given.manyRows();
        z.item(Given.CODE);
        z.condition(0, z.op(7, z.constant(311, false), Given.CODE));
        due.is("the last 200 of 512", z.run(), 200);
        due.is("the last of them", z.cell(199, 0), 511);
        z.condition(0, z.op(7, z.constant(310, false), Given.CODE));
        due.ends("the last 201 of 512", z, -15);
    }

    private static void rowsBeforeAnyIsLeftOut() {
        due.says("the 201st row of the answer, before any is left out (-15)");
        QueryRunner x = Given.manyRows();
        x.condition(0, x.op(8, Given.CODE, x.constant(200, false)));
        x.item(x.constant(1, false));
        x.shape(true, 1000, 0);
        due.ends("all the same", x, -15);
        x.shape(true, 0, 0);
        due.ends("none kept", x, -15);
        x.shape(false, 1, 0);
        due.ends("one kept", x, -15);
        x.shape(false, 1000, 1000);
        due.ends("all skipped", x, -15);
        QueryRunner y = Given.manyRows();
        y.condition(0, y.op(8, Given.CODE, y.constant(199, false)));
        y.item(y.constant(1, false));
        y.shape(true, 1000, 0);
        due.answers("200 that are all the same", y, "1");
    }

    // Goes wrong with -20 in the row of this number alone.
    private static int wrongAt(QueryRunner x, int number) {
        return x.op(3, x.constant(1, false), x.op(1, Given.CODE, x.constant(number, false)));
    }

    private static void itemsOfThe201st() {
        due.says("the 201st row of the answer (-15; its items are not worked out)");
        QueryRunner x = rowsUpTo(200);
        x.item(wrongAt(x, 200));
        due.ends("wrong in the 201st", x, -15);
        QueryRunner y = rowsUpTo(200);
        y.item(wrongAt(y, 199));
        due.ends("wrong in the 200th", y, -20);
        QueryRunner z = rowsUpTo(199);
        z.item(wrongAt(z, 200));
        due.is("no 201st", z.run(), 200);
    }

    private static void whereOfThe201st() {
        due.says("what comes first: the WHERE of the 201st row is worked out before it is one");
        QueryRunner x = Given.manyRows();
        x.item(Given.CODE);
        x.condition(0, Given.asTruth(x, wrongAt(x, 200)));
        due.ends("wrong in the 201st", x, -20);
        QueryRunner y = Given.manyRows();
        y.item(Given.CODE);
        y.condition(0, Given.asTruth(y, wrongAt(y, 201)));
        due.ends("wrong in the 202nd", y, -15);
        QueryRunner z = Given.manyRows();
        z.item(Given.CODE);
        int least = z.op(7, Given.CODE, z.constant(200, false));
        z.condition(0, z.op(9, least, Given.always(z)));
        due.is("WHERE leaves the 201st and all behind it out", z.run(), 200);
        z.condition(0, z.op(10, least, z.op(9, z.op(5, Given.CODE, z.constant(511, false)), Given.always(z))));
        due.ends("the 201st is the last of all", z, -15);
    }

    private static void wrongBeforeThe201st() {
        due.says("what comes first, something that goes WRONG, or the 201st row");
        QueryRunner x = rowsUpTo(511);
        x.item(wrongAt(x, 100));
        due.ends("wrong in the 101st", x, -20);
        QueryRunner y = rowsUpTo(511);
        y.item(wrongAt(y, 300));
        due.ends("wrong in the 301st", y, -15);
        QueryRunner z = rowsUpTo(511);
        z.item(wrongAt(z, 0));
        due.ends("wrong in the first", z, -20);
    }

    private static void groupsAndThe201st() {
        due.says("the 201st row of the answer, of groups (-15)");
        QueryRunner x = rowsUpTo(199);
        x.group(Given.CODE);
        due.is("200 groups", x.run(), 200);
        due.is("the last", x.cell(199, 0), 199);
        x.item(wrongAt(x, 200));
        due.is("nothing wrong in them", x.run(), 200);
        QueryRunner y = rowsUpTo(200);
        y.group(Given.CODE);
        due.ends("201 groups", y, -15);
        y.item(wrongAt(y, 200));
        due.ends("items of the 201st", y, -15);
        y.item(wrongAt(y, 199));
        due.ends("items of the 200th", y, -20);
        QueryRunner z = rowsUpTo(511);
        z.group(Given.CODE);
        z.condition(1, z.op(7, Given.CODE, z.constant(200, false)));
        due.is("512 groups, of which HAVING leaves 200", z.run(), 200);
        z.condition(1, z.op(8, Given.CODE, z.constant(200, false)));
        due.ends("512 groups, of which HAVING leaves 201", z, -15);
        z.condition(1, Given.asTruth(z, wrongAt(z, 200)));
        due.ends("the HAVING of the 201st", z, -20);
        z.condition(1, Given.asTruth(z, wrongAt(z, 201)));
        due.ends("the HAVING of the 202nd", z, -15);
        QueryRunner w = Given.manyRows();
        w.group(0);
        w.item(w.aggregate(0, 0, false));
        w.shape(true, 1000, 0);
        due.answers("512 rows in eight groups", w, "64");
        QueryRunner v = rowsUpTo(511);
        v.group(Given.CODE);
        v.item(v.aggregate(2, wrongAt(v, 511), false));
        due.ends("what aggregates are of, of the last row, before any group", v, -20);
    }

    private static void noAnswerBehind() {
        due.says("With each of these there is no answer");
        for (int code : new int[] {-1, -11, -12, -13, -15, -20, -21}) {
            QueryRunner x = Given.manyRows();
            x.item(0);
            x.condition(0, x.op(8, Given.CODE, x.constant(1, false)));
            due.answers("an answer", x, "0", "0");
            breakQuery(x, code);
            due.ends("then " + code, x, code);
            due.is("cell(1, 0)", x.cell(1, 0), 0);
            due.is("answer(2)", x.answer(2), -1);
            x.fresh();
            due.hasNoAnswer("behind fresh", x);
            x.source(0, 0, -1);
            x.item(x.constant(4, true));
            x.shape(false, 1, 0);
            due.answers("another answer", x, "-");
        }
    }

    private static void breakQuery(QueryRunner x, int code) {
        switch (code) {
            case -1 -> x.fresh();
            case -11 -> x.item(x.column(0, 1));
            case -12 -> x.group(x.aggregate(0, 0, false));
            case -13 -> x.condition(1, Given.always(x));
            case -15 -> x.condition(0, Given.always(x));
            case -20 -> x.item(Given.divided(x));
            default -> x.item(Given.huge(x));
        }
    }

    private static void runAgain() {
        due.says("Promise 15: a run changes nothing but the answer");
        QueryRunner x = Given.pairs(1, 5, 2, 6, 1, 7);
        x.group(0);
        x.item(0);
        x.item(x.aggregate(2, 1, false));
        x.item(x.aggregate(1, 1, true));
        x.order(0, true);
        for (int i = 0; i < 5; i++) {
            due.answers("again", x, "2 6 1", "1 12 2");
        }
        x.insert(0, 2, 6, 0, 0, 0);
        due.holds("a row more, the answer as it was", x, "2 6 1", "1 12 2");
        due.answers("the next run", x, "2 12 1", "1 12 2");
        x.condition(0, Given.asTruth(x, Given.divided(x)));
        due.ends("wrong", x, -20);
        x.condition(0, Given.always(x));
        due.answers("right again", x, "2 12 1", "1 12 2");
        QueryRunner y = Given.numbers(1, 2, 2, 3, 3);
        y.item(0);
        y.order(0, true);
        y.shape(true, 1, 1);
        for (int i = 0; i < 3; i++) {
            due.answers("again, with a shape", y, "2");
        }
        y.order(0, false);
        due.is("the orders are still there", y.order(0, false), 3);
        due.is("the items too", y.item(0), 1);
        due.is("the sources too", y.source(0, 0, -1), 2);
        due.is("the expressions too", y.fresh(), 1);
    }

    private static void oneQueryBehindAnother() {
        due.says("Promise 15: nothing of an earlier run is left");
        QueryRunner x = Given.pairs(1, 5, 2, 6, 1, 7);
        for (int i = 0; i < 2; i++) {
            x.fresh();
            x.source(0, 0, -1);
            int a = x.column(0, 0);
            int b = x.column(0, 1);
            x.item(a);
            due.answers("not grouped", x, "1", "2", "1");
            x.group(a);
            x.item(x.aggregate(2, b, true));
            due.answers("grouped", x, "1 12", "2 6");
            x.fresh();
            x.source(0, 0, -1);
            x.item(x.column(0, 1));
            due.answers("not grouped any more", x, "5", "6", "7");
            x.item(x.aggregate(1, 0, false));
            due.ends("a column that is no group any more", x, -13);
            x.fresh();
            x.source(0, 0, -1);
            x.column(0, 1);
            x.item(x.aggregate(2, 0, true));
            x.item(x.aggregate(4, 0, false));
            due.answers("other aggregates", x, "18 7");
            x.condition(0, Given.never(x));
            due.answers("of no row", x, "- -");
        }
    }
}
