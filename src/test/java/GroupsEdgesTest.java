/** AGGREGATES and GROUPED queries: a test for each sentence that names an edge, or what is worked out first. */
public final class GroupsEdgesTest {
    private static final long MOST = Given.MOST_RESULT;
    private static final long TRILLION = Given.MOST_VALUE;
    private static final long NULL = Given.NULL;
    private static final Due due = new Due("GroupsEdgesTest");

    public static void main(String[] args) {
        howManyRows();
        howManyRowsLooksAtNothing();
        howManyThatAreNotNull();
        sums();
        leastAndGreatest();
        averages();
        nullWhenThereAreNone();
        distinct();
        distinctNotOfRows();
        sumsAtTheEdge();
        sumsOnTheirWay();
        sumsAtTheirRow();
        averagesOnTheirWay();
        distinctSumsOnTheirWay();
        noSumNothingWrong();
        sumsOfEachGroup();
        resultsOfAggregatesInOperators();
        groupedByGroups();
        groupedByHaving();
        groupedByAnItem();
        notGroupedByOthers();
        sameGroups();
        nullWithNull();
        orderOfFirstRows();
        withoutGroupsAllAreOne();
        withoutGroupsAlsoNone();
        withGroupsNone();
        groupsWorkedOutInOrder();
        groupsBeforeAggregates();
        aggregatesByTheirNumbers();
        aggregatesInUseAlone();
        aggregatesOfHaving();
        behindAllRows();
        havingMustBeTrue();
        havingThenItems();
        groupAfterGroup();
        eightAggregates();
        mostGroups();
        due.end();
    }

    private static QueryRunner aggregated(int kind, boolean distinct, long... values) {
        QueryRunner x = Given.numbers(values);
        x.item(x.aggregate(kind, 0, distinct));
        return x;
    }

    private static void gives(String what, int kind, boolean distinct, String want, long... values) {
        due.answers(what, aggregated(kind, distinct, values), want);
    }

    private static void howManyRows() {
        due.says("AGGREGATES: 0 how many rows");
        gives("none", 0, false, "0");
        gives("one", 0, false, "1", 5);
        gives("NULLs too", 0, false, "3", NULL, 5, NULL);
        gives("eight", 0, false, "8", 1, 1, 1, 1, 1, 1, 1, 1);
    }

    private static void howManyRowsLooksAtNothing() {
        due.says("AGGREGATES: 0 (its expression is not looked at)");
        QueryRunner x = Given.numbers(1, 2);
        x.item(x.aggregate(0, Given.divided(x), false));
        x.item(x.aggregate(0, Given.huge(x), true));
        due.answers("what would go wrong", x, "2 2");
        QueryRunner y = Given.numbers(1, 2);
        y.item(y.aggregate(1, Given.divided(y), false));
        due.ends("of 1 it is", y, -20);
    }

    private static void howManyThatAreNotNull() {
        due.says("AGGREGATES: 1 how many that are not NULL");
        gives("none", 1, false, "0");
        gives("NULLs alone", 1, false, "0", NULL, NULL);
        gives("some", 1, false, "2", NULL, 0, NULL, 0);
        gives("all", 1, false, "3", 7, 7, 8);
    }

    private static void sums() {
        due.says("AGGREGATES: 2 their sum");
        gives("one", 2, false, "7", 7);
        gives("a 0", 2, false, "0", 0);
        gives("some", 2, false, "4", 7, NULL, -3);
        gives("equal ones", 2, false, "14", 7, 7);
    }

    private static void leastAndGreatest() {
        due.says("AGGREGATES: 3 the least, 4 the greatest");
        gives("least of one", 3, false, "7", 7);
        gives("greatest of one", 4, false, "-7", -7);
        gives("least, first", 3, false, "-2", -2, 5, NULL, 9);
        gives("least, last", 3, false, "-9", 5, NULL, -9);
        gives("greatest, first", 4, false, "9", 9, NULL, 5);
        gives("greatest, last", 4, false, "9", -5, 0, 9);
        gives("greatest below 0", 4, false, "-1", -3, -1, -2);
        gives("least above 0", 3, false, "1", 3, 1, 2);
    }

    private static void averages() {
        due.says("AGGREGATES: 5 the sum by how many (cut towards 0)");
        gives("one", 5, false, "7", 7);
        gives("cut", 5, false, "3", 7, 0);
        gives("cut below 0", 5, false, "-3", -7, 0);
        gives("cut to 0", 5, false, "0", -1, 0);
        gives("NULLs are not counted", 5, false, "5", 4, NULL, 6, NULL);
        gives("distinct ones once", 5, true, "2", 1, 1, 1, 4);
        gives("each of them", 5, false, "1", 1, 1, 1, 4);
    }

    private static void nullWhenThereAreNone() {
        due.says("AGGREGATES: 2 to 5 NULL when there are none");
        for (int kind = 2; kind <= 5; kind++) {
            for (int i = 0; i <= 1; i++) {
                gives("no rows, aggregate " + kind, kind, i == 1, "-");
                gives("NULLs alone, aggregate " + kind, kind, i == 1, "-", NULL, NULL);
                gives("a 0, aggregate " + kind, kind, i == 1, "0", NULL, 0);
            }
        }
    }

    private static void distinct() {
        due.says("AGGREGATES: DISTINCT ones count equal values once");
        gives("1", 1, true, "3", 5, NULL, 4, 5, NULL, 0, 4, 5);
        gives("2", 2, true, "9", 5, NULL, 4, 5, NULL, 0, 4, 5);
        gives("3", 3, true, "0", 5, NULL, 4, 5, NULL, 0, 4, 5);
        gives("4", 4, true, "5", 5, NULL, 4, 5, NULL, 0, 4, 5);
        gives("5", 5, true, "3", 5, NULL, 4, 5, NULL, 0, 4, 5);
        gives("two sorts of signs", 1, true, "2", 5, -5, 5, -5);
        QueryRunner x = Given.pairs(1, 5, 2, 5, 1, 5, 2, 6);
        x.group(0);
        x.item(x.aggregate(1, 1, true));
        x.item(x.aggregate(1, 1, false));
        due.answers("of each group by itself", x, "1 2", "2 2");
        QueryRunner y = Given.pairs(1, 5, 1, 6, 2, 5, 2, 6, 1, 7, 2, 7, 3, 5);
        y.group(0);
        y.item(y.aggregate(1, 1, true));
        y.item(y.aggregate(2, 1, true));
        due.answers("the same values in each group", y, "3 18", "3 18", "1 5");
        due.answers("once more", y, "3 18", "3 18", "1 5");
    }

    private static void distinctNotOfRows() {
        due.says("AGGREGATES: DISTINCT ones (not 0)");
        gives("equal rows", 0, true, "3", 5, 5, 5);
        gives("NULLs", 0, true, "2", NULL, NULL);
        gives("none", 0, true, "0");
    }

    // The sum of a thousand times each number, and of a number as it is.
    private static QueryRunner thousandfold(int kind, boolean distinct, long... values) {
        QueryRunner x = Given.pairs(values);
        int thousand = x.op(2, 0, x.constant(1000, false));
        x.item(x.aggregate(kind, x.op(0, thousand, 1), distinct));
        return x;
    }

    private static void sumsAtTheEdge() {
        due.says("WRONG: a result of an aggregate below -10^15 or above 10^15 (-21)");
        due.answers("at the upper edge", thousandfold(2, false, TRILLION, -1, 0, 1), "" + MOST);
        due.ends("above", thousandfold(2, false, TRILLION, -1, 0, 2), -21);
        due.answers("at the lower edge", thousandfold(2, false, -TRILLION, 1, 0, -1), "" + -MOST);
        due.ends("below", thousandfold(2, false, -TRILLION, 1, 0, -2), -21);
        due.answers("one at the edge", thousandfold(2, false, TRILLION, 0), "" + MOST);
        due.answers("0 more", thousandfold(2, false, TRILLION, 0, 0, 0), "" + MOST);
        due.ends("twice the edge", thousandfold(2, false, TRILLION, 0, TRILLION, 0), -21);
    }

    private static void sumsOnTheirWay() {
        due.says("WRONG: a result of an aggregate, on its way too (-21)");
        due.ends("above, then less", thousandfold(2, false, TRILLION, 0, 0, 1, 0, -1), -21);
        due.ends("below, then more", thousandfold(2, false, -TRILLION, 0, 0, -1, 0, 1), -21);
        due.answers("less, then more", thousandfold(2, false, TRILLION, 0, 0, -1, 0, 1), "" + MOST);
        due.answers("at the edge on its way", thousandfold(2, false, TRILLION, 0, -TRILLION, 0, 0, 1), "1");
    }

    // The second row takes the sum too far; the third one's WHERE and group go wrong with -20.
    private static void sumsAtTheirRow() {
        due.says("(All this row by row) a sum on its way");
        for (int kind = 2; kind <= 5; kind += 3) {
            for (int i = 0; i <= 1; i++) {
                QueryRunner x = thousandfold(kind, i == 1, TRILLION, -1, 0, 2, 0, 0);
                int divided = x.op(3, 0, 1);
                x.condition(0, Given.asTruth(x, divided));
                due.ends("before the next row's WHERE", x, -21);
                x.condition(0, Given.always(x));
                x.group(x.op(2, x.constant(0, false), divided));
                due.ends("before the next row's group", x, -21);
                QueryRunner y = thousandfold(kind, i == 1, TRILLION, -1, 0, 1, 0, 0);
                y.condition(0, Given.asTruth(y, y.op(3, 0, 1)));
                due.ends("at the edge: the next row's WHERE", y, -20);
            }
        }
    }

    private static void averagesOnTheirWay() {
        due.says("WRONG: a result of an aggregate, on its way too, of 5 its sum");
        due.answers("at the edge", thousandfold(5, false, TRILLION, -1, 0, 1), "" + MOST / 2);
        due.ends("above", thousandfold(5, false, TRILLION, 0, 0, 1), -21);
        due.ends("above, then less", thousandfold(5, false, TRILLION, 0, 0, 1, 0, -1), -21);
        due.answers("at the lower edge", thousandfold(5, false, -TRILLION, 1, 0, -1), "" + -MOST / 2);
        due.ends("below", thousandfold(5, false, -TRILLION, 0, 0, -1), -21);
    }

    private static void distinctSumsOnTheirWay() {
        due.says("WRONG: a result of a DISTINCT aggregate, on its way too");
        for (int kind = 2; kind <= 5; kind += 3) {
            due.answers("the same twice", thousandfold(kind, true, TRILLION, 0, TRILLION, 0), "" + MOST);
            due.ends("others", thousandfold(kind, true, TRILLION, 0, TRILLION, -1), -21);
            due.ends("others behind the same", thousandfold(kind, true, TRILLION, 0, TRILLION, 0, 0, 1), -21);
        }
        due.ends("the same twice, not distinct", thousandfold(2, false, TRILLION, 0, TRILLION, 0), -21);
    }

    private static void noSumNothingWrong() {
        due.says("WRONG: of 0, 1, 3 and 4 no result goes beyond");
        String[] want = {"3", "3", "", "" + MOST, "" + MOST};
        for (int kind : new int[] {0, 1, 3, 4}) {
            due.answers("aggregate " + kind,
                    thousandfold(kind, false, TRILLION, 0, TRILLION, 0, TRILLION, 0), want[kind]);
        }
        due.answers("least at the lower edge", thousandfold(3, false, -TRILLION, 0, TRILLION, 0), "" + -MOST);
        due.answers("greatest at the lower edge", thousandfold(4, false, -TRILLION, 0, -TRILLION, 0), "" + -MOST);
    }

    private static void sumsOfEachGroup() {
        due.says("WRONG: the sum of a group, not of all");
        QueryRunner x = Given.pairs(1, TRILLION, 2, TRILLION, 1, -1, 2, -1);
        x.group(0);
        x.item(x.aggregate(2, x.op(2, 1, x.constant(1000, false)), false));
        due.answers("each within", x, "999999999999000", "999999999999000");
        x.insert(0, 2, 2, 0, 0, 0);
        due.ends("the second group's beyond", x, -21);
    }

    private static void resultsOfAggregatesInOperators() {
        due.says("WRONG: a result of 0 to 4 of aggregates");
        QueryRunner x = Given.numbers();
        int none = x.aggregate(2, 0, false);
        int count = x.aggregate(0, 0, false);
        x.item(x.op(3, none, count));
        x.item(x.op(0, count, count));
        due.answers("NULL by 0", x, "- 0");
        x.item(x.op(3, x.constant(1, false), count));
        due.ends("1 by how many, of none", x, -20);
        QueryRunner y = Given.numbers(TRILLION);
        int sum = y.aggregate(2, y.op(2, 0, y.constant(1000, false)), false);
        y.item(y.op(0, sum, y.constant(0, false)));
        due.answers("at the edge", y, "" + MOST);
        y.item(y.op(0, sum, y.constant(1, false)));
        due.ends("above", y, -21);
    }

    private static void groupedByGroups() {
        due.says("A query that has GROUPS is GROUPED");
        QueryRunner x = Given.pairs(1, 5, 1, 6, 2, 5);
        x.group(0);
        x.item(0);
        due.answers("without any aggregate", x, "1", "2");
        QueryRunner y = Given.pairs(1, 5, 1, 6, 2, 5);
        y.group(y.constant(9, false));
        y.item(y.constant(8, false));
        due.answers("of a constant", y, "8");
    }

    private static void groupedByHaving() {
        due.says("A query that has a HAVING is GROUPED");
        QueryRunner x = Given.numbers(1, 2, 3);
        x.item(x.constant(8, false));
        due.answers("before", x, "8", "8", "8");
        x.condition(1, Given.always(x));
        due.answers("with a having", x, "8");
        x.condition(1, Given.never(x));
        due.answers("that is FALSE", x);
        x.condition(1, Given.always(x));
        x.item(0);
        due.ends("a column", x, -13);
    }

    private static void groupedByAnItem() {
        due.says("A query that has an aggregate in an item is GROUPED");
        QueryRunner x = Given.numbers(1, 2, 3);
        x.item(x.constant(8, false));
        due.answers("before", x, "8", "8", "8");
        x.item(x.op(0, x.constant(1, false), x.op(2, x.aggregate(2, 0, false), x.constant(2, false))));
        due.answers("deep in an item", x, "8 13");
    }

    private static void notGroupedByOthers() {
        due.says("no other query is GROUPED");
        QueryRunner x = Given.numbers(1, 1, 2);
        x.aggregate(2, 0, false);
        x.condition(0, x.op(6, 0, x.constant(2, false)));
        x.item(0);
        x.order(0, true);
        x.shape(true, 1000, 0);
        due.answers("distinct, ordered, WHERE, an aggregate that is not in use", x, "1");
        x.shape(false, 1000, 0);
        due.answers("not distinct", x, "1", "1");
    }

    private static void sameGroups() {
        due.says("rows of which all groups are the same are together");
        for (int different = 0; different < 4; different++) {
            QueryRunner x = new QueryRunner();
            x.table(4);
            for (int row = 0; row < 3; row++) {
                long[] v = {1, 1, 1, 1};
                v[different] = row == 1 ? 2 : 1;
                x.insert(0, v[0], v[1], v[2], v[3], 0);
            }
            x.source(0, 0, -1);
            for (int i = 0; i < 4; i++) {
                x.group(x.column(0, i));
            }
            x.item(x.column(0, different));
            x.item(x.aggregate(0, 0, false));
            due.answers("group " + different + " differs", x, "1 2", "2 1");
        }
    }

    private static void nullWithNull() {
        due.says("rows of which all groups are the same (NULL with NULL) are together");
        QueryRunner x = Given.pairs(NULL, 1, 0, 1, NULL, 2, 0, 3, NULL, 4);
        x.group(0);
        x.item(0);
        x.item(x.aggregate(0, 0, false));
        due.answers("NULL is not 0", x, "- 3", "0 2");
        QueryRunner y = Given.pairs(NULL, 0, 0, NULL, NULL, NULL, NULL, 0, NULL, NULL, 0, 0);
        y.group(0);
        y.group(1);
        y.item(0);
        y.item(1);
        y.item(y.aggregate(0, 0, false));
        due.answers("which of two is NULL", y, "- 0 2", "0 - 1", "- - 2", "0 0 1");
        for (int i = 0; i <= 1; i++) {
            QueryRunner z = Given.pairs(NULL, 1, NULL, 2, 7, NULL, NULL, NULL, 1, 2);
            z.group(z.op(0, i, 1 - i));
            z.item(z.aggregate(0, 0, false));
            due.answers("what is NULL by one of two", z, "4", "1");
        }
        QueryRunner w = Given.pairs(NULL, 1, 5, 6, NULL, 2, NULL, 3);
        w.condition(0, w.op(7, w.constant(0, false), 1));
        w.group(0);
        w.item(w.aggregate(2, 1, false));
        w.item(0);
        due.answers("whatever was worked out before", w, "6 -", "6 5");
    }

    private static void orderOfFirstRows() {
        due.says("in the order of their first rows");
        QueryRunner x = Given.numbers(5, 3, 4, 3, 5, NULL, 4);
        x.group(0);
        x.item(0);
        x.item(x.aggregate(0, 0, false));
        due.answers("neither by size nor by last rows", x, "5 2", "3 2", "4 2", "- 1");
        x.condition(0, x.op(8, 0, x.constant(4, false)));
        due.answers("of those that WHERE leaves", x, "3 2", "4 2");
    }

    private static void withoutGroupsAllAreOne() {
        due.says("(without groups all rows are one");
        QueryRunner x = Given.numbers(1, 2, NULL);
        x.item(x.aggregate(0, 0, false));
        due.answers("an aggregate", x, "3");
        QueryRunner y = Given.numbers(1, 2, NULL);
        y.item(y.constant(4, false));
        y.condition(1, Given.always(y));
        due.answers("a having", y, "4");
    }

    private static void withoutGroupsAlsoNone() {
        due.says("(without groups all rows are one, also none)");
        QueryRunner x = Given.numbers();
        x.item(x.aggregate(0, 0, false));
        x.item(x.constant(4, false));
        due.answers("an empty table", x, "0 4");
        x.condition(1, x.op(5, 1, x.constant(0, false)));
        due.answers("with a having", x, "0 4");
        x.condition(1, Given.never(x));
        due.answers("that is FALSE", x);
        QueryRunner y = Given.numbers(1, 2);
        y.item(y.aggregate(1, 0, false));
        y.condition(0, Given.never(y));
        due.answers("WHERE leaves none", y, "0");
        QueryRunner z = Given.numbers();
        z.item(z.constant(4, false));
        z.condition(1, Given.always(z));
        due.answers("a having alone", z, "4");
        z.item(Given.divided(z));
        due.ends("its items are worked out", z, -20);
    }

    private static void withGroupsNone() {
        due.says("with groups there is none without a row");
        QueryRunner x = Given.numbers();
        x.group(x.constant(1, false));
        x.item(x.aggregate(0, 0, false));
        x.item(Given.divided(x));
        due.answers("an empty table", x);
        due.is("an answer all the same", x.answer(1), 2);
        QueryRunner y = Given.numbers(1, 2);
        y.group(0);
        y.item(0);
        y.condition(0, Given.never(y));
        y.condition(1, Given.asTruth(y, Given.divided(y)));
        due.answers("WHERE leaves none", y);
    }

    private static QueryRunner trapped(String rows) {
        QueryRunner x = new QueryRunner();
        Traps.table(x, rows);
        x.source(0, 0, -1);
        return x;
    }

    private static void groupsWorkedOutInOrder() {
        due.says("of each row first its groups are worked out, in order");
        QueryRunner x = trapped(".b");
        Traps traps = new Traps(x, 0);
        x.group(traps.divided);
        x.group(traps.huge);
        x.item(x.constant(1, false));
        due.ends("/ first", x, -20);
        QueryRunner y = trapped(".b");
        Traps others = new Traps(y, 0);
        y.group(others.key);
        y.group(others.huge);
        y.group(others.divided);
        y.item(y.constant(1, false));
        due.ends("* first", y, -21);
        QueryRunner z = trapped("dh");
        Traps last = new Traps(z, 0);
        z.group(last.huge);
        z.group(last.divided);
        z.item(z.constant(1, false));
        due.ends("all of a row before the next row's", z, -20);
    }

    private static void groupsBeforeAggregates() {
        due.says("then what the aggregates in having and items are of");
        QueryRunner x = trapped(".b");
        Traps traps = new Traps(x, 0);
        x.item(x.aggregate(4, traps.huge, false));
        x.group(traps.divided);
        due.ends("a row's groups before its aggregates", x, -20);
        QueryRunner y = trapped(".hd");
        Traps others = new Traps(y, 0);
        y.item(y.aggregate(4, others.huge, false));
        y.group(others.divided);
        due.ends("a row's aggregates before the next row's groups", y, -21);
    }

    private static void aggregatesByTheirNumbers() {
        due.says("what the aggregates are of, by the aggregates' numbers");
        for (int i = 0; i <= 1; i++) {
            QueryRunner x = trapped(".b");
            Traps traps = new Traps(x, 0);
            int first = x.aggregate(4, i == 0 ? traps.divided : traps.huge, false);
            int second = x.aggregate(3, i == 0 ? traps.huge : traps.divided, false);
            x.item(second);
            x.item(first);
            due.ends("not by the items", x, i == 0 ? -20 : -21);
            QueryRunner y = trapped(".b");
            Traps others = new Traps(y, 0);
            first = y.aggregate(4, i == 0 ? others.divided : others.huge, false);
            second = y.aggregate(3, i == 0 ? others.huge : others.divided, false);
            y.item(second);
            y.condition(1, y.op(12, first, 0));
            due.ends("a having's before an item's", y, i == 0 ? -20 : -21);
            QueryRunner z = trapped(".b");
            Traps more = new Traps(z, 0);
            first = z.aggregate(4, i == 0 ? more.divided : more.huge, false);
            second = z.aggregate(3, i == 0 ? more.huge : more.divided, false);
            z.item(first);
            z.condition(1, z.op(12, second, 0));
            due.ends("an item's before a having's", z, i == 0 ? -20 : -21);
        }
        QueryRunner w = trapped(".dh");
        Traps last = new Traps(w, 0);
        w.item(w.aggregate(4, last.huge, false));
        w.item(w.aggregate(4, last.divided, false));
        due.ends("all of a row before the next row's", w, -20);
    }

    private static void aggregatesInUseAlone() {
        due.says("what the aggregates in having and items are of, and no others");
        QueryRunner x = trapped(".b");
        Traps traps = new Traps(x, 0);
        x.aggregate(4, traps.divided, false);
        x.item(x.aggregate(4, traps.key, false));
        x.aggregate(2, traps.huge, false);
        due.answers("others are not in use", x, "1");
        QueryRunner y = trapped(".b");
        Traps others = new Traps(y, 0);
        int divided = y.aggregate(4, others.divided, false);
        int count = y.aggregate(0, others.key, false);
        y.item(count);
        y.condition(1, y.op(9, y.op(6, count, count), y.op(12, divided, 0)));
        due.ends("in use, though no having comes to it", y, -20);
    }

    private static void aggregatesOfHaving() {
        due.says("HAVING has aggregates of its own");
        QueryRunner x = Given.pairs(1, 5, 2, 7, 1, 6);
        x.group(0);
        x.item(0);
        x.condition(1, x.op(5, x.aggregate(4, 1, false), x.constant(6, false)));
        due.answers("the greatest is 6", x, "1");
        x.condition(1, x.op(5, x.aggregate(0, 1, false), x.constant(1, false)));
        due.answers("one row", x, "2");
    }

    private static void behindAllRows() {
        due.says("Behind all rows, for each of them");
        QueryRunner x = trapped(".h");
        Traps traps = new Traps(x, 0);
        x.group(traps.key);
        x.item(Given.divided(x));
        x.item(x.aggregate(4, traps.huge, false));
        due.ends("rows before items", x, -21);
        QueryRunner y = trapped(".h");
        Traps others = new Traps(y, 0);
        y.group(others.huge);
        y.item(y.constant(1, false));
        y.condition(1, Given.asTruth(y, Given.divided(y)));
        due.ends("rows before having", y, -21);
    }

    private static void havingMustBeTrue() {
        due.says("HAVING must be TRUE");
        QueryRunner x = Given.pairs(1, 5, 2, NULL, 3, 6);
        x.group(0);
        x.item(0);
        int sum = x.aggregate(2, 1, false);
        x.condition(1, x.op(5, sum, x.constant(5, false)));
        due.answers("TRUE, UNKNOWN, FALSE", x, "1");
        x.condition(1, x.op(11, x.op(5, sum, x.constant(5, false)), 0));
        due.answers("NOT of it", x, "3");
        x.condition(1, x.op(12, sum, 0));
        due.answers("IS NULL", x, "2");
    }

    private static void havingThenItems() {
        due.says("HAVING must be TRUE, then its items");
        QueryRunner x = Given.numbers(1);
        x.group(0);
        x.item(Given.divided(x));
        x.condition(1, Given.never(x));
        due.answers("no items of what HAVING leaves out", x);
        x.condition(1, x.op(5, 0, x.constant(0, true)));
        due.answers("UNKNOWN", x);
        x.condition(1, Given.always(x));
        due.ends("items of what it leaves", x, -20);
        x.condition(1, Given.asTruth(x, Given.huge(x)));
        due.ends("HAVING before items", x, -21);
    }

    private static void groupAfterGroup() {
        due.says("for each of them in order: HAVING must be TRUE, then its items");
        String[] rows = {"hd", "dh"};
        for (int i = 0; i < 2; i++) {
            QueryRunner x = trapped(rows[i]);
            Traps traps = new Traps(x, 0);
            // Aggregates of the columns, so that nothing goes wrong before all rows have been gone through.
            int divisor = x.aggregate(4, x.column(0, 1), false);
            int factor = x.aggregate(4, x.column(0, 2), false);
            int divided = x.op(3, x.constant(7, false), divisor);
            int huge = x.op(2, x.constant(TRILLION, false), x.op(0, x.constant(1000, false), factor));
            x.group(traps.key);
            x.item(huge);
            x.condition(1, Given.asTruth(x, divided));
            due.ends(i == 0 ? "the first one's items before the second one's having" : "the first one's having",
                    x, i == 0 ? -21 : -20);
        }
    }

    private static void eightAggregates() {
        due.says("AGGREGATES: eight of them at once");
        QueryRunner x = Given.pairs(1, 4, 2, 9, 1, 4, 1, NULL);
        x.group(0);
        int[] e = new int[8];
        for (int i = 0; i < 8; i++) {
            e[i] = x.aggregate(i < 6 ? i : 1 + i % 2, 1, i >= 6);
        }
        for (int i = 2; i < 8; i++) {
            x.item(e[i]);
        }
        due.answers("the last six", x, "8 4 4 4 1 4", "9 9 9 9 1 9");
        x.condition(1, x.op(9, x.op(5, e[0], x.constant(3, false)), x.op(5, e[1], x.constant(2, false))));
        due.answers("the first two", x, "8 4 4 4 1 4");
    }

    private static void mostGroups() {
        due.says("512 groups of one row each");
        QueryRunner x = Given.manyRows();
        x.group(Given.CODE);
        int count = x.aggregate(0, 0, false);
        int sum = x.aggregate(2, Given.CODE, true);
        x.item(sum);
        x.item(count);
        x.condition(1, x.op(8, x.constant(510, false), sum));
        due.answers("the last two", x, "510 1", "511 1");
        x.condition(1, x.op(7, sum, x.constant(2, false)));
        due.answers("the first two", x, "0 1", "1 1");
        x.condition(1, x.op(7, x.constant(1, false), count));
        due.answers("none has more than one row", x);
    }
}
