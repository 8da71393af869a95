/** ITEMS, what is the same left out, ORDERS, skipped and kept: a test for each sentence that names an edge. */
public final class RowsEdgesTest {
    private static final long MOST = Given.MOST_RESULT;
    private static final long NULL = Given.NULL;
    private static final Due due = new Due("RowsEdgesTest");

    public static void main(String[] args) {
        oneRowEach();
        oneGroupEach();
        leftOutWhenTold();
        sameInAllItems();
        sameNullWithNull();
        sameAsOneBefore();
        sameGroupsLeftOut();
        firstFirst();
        nullBeforeNumbers();
        nullBehindWhenDown();
        evenStays();
        numbersOfAnySize();
        ordersOfLaterItems();
        ordersOfTheSameItem();
        leftOutThenOrdered();
        orderedThenSkipped();
        skippedThenKept();
        skippedOfFew();
        keptOfFew();
        leftOutThenSkipped();
        manyRows();
        due.end();
    }

    private static QueryRunner pairs(long... values) {
        QueryRunner x = Given.pairs(values);
        x.item(0);
        x.item(1);
        return x;
    }

    private static void oneRowEach() {
        due.says("ITEMS: each row gives one ROW of the answer, items in their order");
        QueryRunner x = Given.pairs(1, 2, 1, 2, NULL, 3);
        x.item(1);
        x.item(0);
        x.item(1);
        x.item(x.constant(9, false));
        due.answers("the same rows too", x, "2 1 2 9", "2 1 2 9", "3 - 3 9");
    }

    private static void oneGroupEach() {
        due.says("ITEMS: each group gives one ROW of the answer");
        QueryRunner x = Given.pairs(1, 2, 1, 3, 2, 2);
        x.group(0);
        x.item(x.constant(9, false));
        due.answers("the same rows too", x, "9", "9");
    }

    private static void leftOutWhenTold() {
        due.says("when it is told, rows that are the same as one before are left out");
        QueryRunner x = pairs(1, 2, 1, 2, 3, 4);
        due.answers("not told", x, "1 2", "1 2", "3 4");
        x.shape(true, 1000, 0);
        due.answers("told", x, "1 2", "3 4");
        x.shape(false, 1000, 0);
        due.answers("no more told", x, "1 2", "1 2", "3 4");
    }

    private static void sameInAllItems() {
        due.says("rows that are the same: in all items");
        for (int different = 0; different < 6; different++) {
            QueryRunner x = Given.numbers(1, 2, 1);
            int seven = x.constant(7, false);
            for (int i = 0; i < 6; i++) {
                x.item(i == different ? 0 : seven);
            }
            x.shape(true, 1000, 0);
            due.is("item " + different + " differs", x.run(), 2);
            due.is("the first", x.cell(0, different), 1);
            due.is("the second", x.cell(1, different), 2);
        }
    }

    private static void sameNullWithNull() {
        due.says("rows that are the same (NULL with NULL)");
        QueryRunner x = pairs(NULL, 1, NULL, 1, 0, 1, 1, NULL, 1, 0, NULL, NULL, NULL, NULL, 0, 0);
        x.shape(true, 1000, 0);
        due.answers("NULL is not 0", x, "- 1", "0 1", "1 -", "1 0", "- -", "0 0");
        QueryRunner y = pairs(NULL, 0, 0, NULL);
        y.shape(true, 1000, 0);
        due.answers("which of them is NULL", y, "- 0", "0 -");
        // A NULL that was worked out stands beside one whose table holds a number under it.
        QueryRunner z = new QueryRunner();
        z.table(1);
        z.insert(0, 5, 0, 0, 0, 1);
        z.insert(0, 6, 0, 0, 0, 1);
        z.source(0, 0, -1);
        z.item(z.column(0, 0));
        z.shape(true, 1000, 0);
        due.answers("what was told for a NULL does not matter", z, "-");
    }

    private static void sameAsOneBefore() {
        due.says("rows that are the same as one before, not only the last one before");
        QueryRunner x = pairs(1, 1, 2, 2, 1, 1, 3, 3, 2, 2, 1, 1);
        x.shape(true, 1000, 0);
        due.answers("the first of each stays", x, "1 1", "2 2", "3 3");
    }

    private static void sameGroupsLeftOut() {
        due.says("rows that are the same, of groups");
        QueryRunner x = Given.pairs(1, 2, 2, 2, 3, 4);
        x.group(0);
        x.item(x.aggregate(2, 1, false));
        x.shape(true, 1000, 0);
        due.answers("two groups, one row", x, "2", "4");
    }

    private static void firstFirst() {
        due.says("they are ordered by the ORDERS (the first first");
        QueryRunner x = pairs(1, 2, 2, 1, 1, 1, 2, 2);
        x.order(0, false);
        due.answers("one order", x, "1 2", "1 1", "2 1", "2 2");
        x.order(1, false);
        due.answers("another behind it", x, "1 1", "1 2", "2 1", "2 2");
        QueryRunner y = pairs(1, 2, 2, 1, 1, 1, 2, 2);
        y.order(1, true);
        y.order(0, false);
        due.answers("the other way round", y, "1 2", "2 2", "1 1", "2 1");
        QueryRunner z = pairs(3, 1, 1, 2);
        due.answers("no order", z, "3 1", "1 2");
    }

    private static void nullBeforeNumbers() {
        due.says("NULL before numbers");
        QueryRunner x = pairs(0, 1, NULL, 2, -1000000000000L, 3, NULL, 4);
        x.order(0, false);
        due.answers("up", x, "- 2", "- 4", "-1000000000000 3", "0 1");
        QueryRunner y = Given.numbers(NULL, NULL);
        y.item(0);
        y.order(0, false);
        due.answers("NULLs alone", y, "-", "-");
    }

    private static void nullBehindWhenDown() {
        due.says("Promise 13: down (then also NULL behind)");
        QueryRunner x = pairs(NULL, 1, 0, 2, -1000000000000L, 3, NULL, 4, 1000000000000L, 5);
        x.order(0, true);
        due.answers("down", x, "1000000000000 5", "0 2", "-1000000000000 3", "- 1", "- 4");
    }

    private static void evenStays() {
        due.says("what is even stays as it was");
        for (int i = 0; i <= 1; i++) {
            QueryRunner x = pairs(1, 8, 2, 7, 1, 6, 2, 5, 1, 4, 2, 3, 1, 2, 2, 1);
            x.order(0, i == 1);
            String[] ones = {"1 8", "1 6", "1 4", "1 2"};
            String[] twos = {"2 7", "2 5", "2 3", "2 1"};
            String[] all = new String[8];
            System.arraycopy(ones, 0, all, i == 0 ? 0 : 4, 4);
            System.arraycopy(twos, 0, all, i == 0 ? 4 : 0, 4);
            due.answers(i == 0 ? "up" : "down", x, all);
            QueryRunner y = pairs(NULL, 3, NULL, 1, NULL, 2);
            y.order(0, i == 1);
            due.answers("NULLs", y, "- 3", "- 1", "- 2");
        }
    }

    private static void numbersOfAnySize() {
        due.says("ordered by numbers of any size");
        QueryRunner x = Given.numbers(-1000000000000L, 1000000000000L, 0, 999999999999L, -1, 1);
        x.item(x.op(2, 0, x.constant(1000, false)));
        x.order(0, false);
        due.answers("up", x, "" + -MOST, "-1000", "0", "1000", "999999999999000", "" + MOST);
        QueryRunner y = Given.numbers(-1000000000000L, 1000000000000L, 2147483648L, -2147483649L, 0);
        y.item(0);
        y.order(0, true);
        due.answers("down", y, "1000000000000", "2147483648", "0", "-2147483649", "-1000000000000");
    }

    private static void ordersOfLaterItems() {
        due.says("Promise 13: an order by an item, each of the six");
        for (int item = 0; item < 6; item++) {
            QueryRunner x = Given.numbers(1, 3, 2);
            int seven = x.constant(7, false);
            for (int i = 0; i < 6; i++) {
                x.item(i == item ? 0 : seven);
            }
            due.is("order of item " + item, x.order(item, true), 1);
            due.is("rows", x.run(), 3);
            due.is("the first", x.cell(0, item), 3);
            due.is("the second", x.cell(1, item), 2);
            due.is("the third", x.cell(2, item), 1);
        }
    }

    private static void ordersOfTheSameItem() {
        due.says("the first first: the same item again changes nothing");
        QueryRunner x = pairs(1, 1, 2, 2, 1, 3);
        x.order(0, true);
        x.order(0, false);
        due.answers("down, then up", x, "2 2", "1 1", "1 3");
    }

    private static void leftOutThenOrdered() {
        due.says("then they are ordered");
        QueryRunner x = pairs(2, 0, 1, 0, 2, 0, 3, 0, 1, 0);
        x.shape(true, 1000, 0);
        x.order(0, false);
        due.answers("left out, then ordered", x, "1 0", "2 0", "3 0");
        QueryRunner y = pairs(1, 5, 2, 5, 1, 4, 1, 5);
        y.shape(true, 1000, 0);
        y.order(1, false);
        due.answers("even ones stay as they were", y, "1 4", "1 5", "2 5");
    }

    private static void orderedThenSkipped() {
        due.says("then so many are skipped: of the ordered ones");
        QueryRunner x = pairs(3, 0, 1, 0, 2, 0);
        x.order(0, false);
        x.shape(false, 1000, 1);
        due.answers("the least is skipped", x, "2 0", "3 0");
        x.shape(false, 1, 0);
        due.answers("the least is kept", x, "1 0");
    }

    private static void skippedThenKept() {
        due.says("so many are skipped, and so many more are kept");
        for (int skip = 0; skip <= 4; skip++) {
            for (int keep = 0; keep <= 4; keep++) {
                QueryRunner x = Given.numbers(10, 11, 12);
                x.item(0);
                x.shape(false, keep, skip);
                int want = Math.min(keep, Math.max(0, 3 - skip));
                String what = "skip " + skip + ", keep " + keep;
                due.is(what, x.run(), want);
                due.is(what + ": answer(0)", x.answer(0), want);
                due.is(what + ": answer(1)", x.answer(1), 1);
                for (int row = 0; row <= 4; row++) {
                    due.is(what + ": row " + row, x.cell(row, 0), row < want ? 10 + skip + row : 0);
                }
            }
        }
    }

    private static void skippedOfFew() {
        due.says("so many are skipped: more than there are");
        QueryRunner x = Given.numbers(1, 2, 3);
        x.item(0);
        for (int skip : new int[] {3, 4, 200, 201, 999, 1000}) {
            x.shape(false, 1000, skip);
            due.answers("skip " + skip, x);
        }
        x.shape(false, 1000, 2);
        due.answers("skip 2", x, "3");
    }

    private static void keptOfFew() {
        due.says("so many more are kept: more than there are");
        QueryRunner x = Given.numbers(1, 2, 3);
        x.item(0);
        for (int keep : new int[] {3, 4, 200, 201, 999, 1000}) {
            x.shape(false, keep, 0);
            due.answers("keep " + keep, x, "1", "2", "3");
        }
        QueryRunner y = Given.numbers();
        y.item(0);
        y.shape(true, 0, 0);
        due.answers("none of none", y);
    }

    private static void leftOutThenSkipped() {
        due.says("the same are left out before any is skipped or kept");
        QueryRunner x = Given.numbers(1, 1, 2, 2, 3, 3);
        x.item(0);
        x.shape(true, 2, 1);
        due.answers("one skipped, two kept", x, "2", "3");
        x.shape(true, 2, 0);
        due.answers("two kept", x, "1", "2");
        x.shape(true, 1000, 3);
        due.answers("three skipped", x);
    }

    private static void manyRows() {
        due.says("200 rows left out, ordered, skipped, kept");
        QueryRunner x = Given.manyRows();
        int code = Given.CODE;
        x.item(code);
        x.item(x.op(4, code, x.constant(7, false)));
        x.condition(0, x.op(7, code, x.constant(200, false)));
        x.order(1, true);
        x.order(0, false);
        due.is("ordered", x.run(), 200);
        due.is("the first", x.cell(0, 0), 6);
        due.is("the second", x.cell(1, 0), 13);
        due.is("the last", x.cell(199, 0), 196);
        x.shape(true, 1000, 199);
        due.answers("199 skipped", x, "196 0");
        x.shape(true, 1000, 200);
        due.answers("200 skipped", x);
        x.shape(true, 199, 0);
        due.is("199 kept", x.run(), 199);
        due.is("the last of them", x.cell(198, 0), 189);
        due.is("none behind it", x.cell(199, 0), 0);
        QueryRunner y = Given.manyRows();
        y.item(y.op(4, code, y.constant(7, false)));
        y.condition(0, y.op(7, code, y.constant(200, false)));
        y.shape(true, 1000, 0);
        due.answers("seven sorts", y, "0", "1", "2", "3", "4", "5", "6");
    }
}
