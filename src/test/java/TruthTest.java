/** Promise 15: values and truths, NULL and UNKNOWN, what is worked out and what goes WRONG. */
public final class TruthTest {
    private static final Due due = new Due("TruthTest");
    private static final int FALSE = 0;
    private static final int TRUE = 1;
    private static final int UNSURE = 2;

    public static void main(String[] args) {
        nullValues();
        comparisons();
        junctions();
        negations();
        isNulls();
        whatIsNotWorkedOut();
        whatIsWorkedOut();
        divisions();
        limits();
        products();
        due.end();
    }

    private static QueryRunner oneRow() {
        QueryRunner x = new QueryRunner();
        x.table(1);
        x.insert(0, 5, 0, 0, 0, 0);
        x.source(0, 0, -1);
        x.item(x.column(0, 0));
        return x;
    }

    private static int number(QueryRunner x, Long v) {
        return x.constant(v == null ? 0 : v, v == null);
    }

    // What a truth is can be seen by two runs: WHERE it, WHERE NOT it.
    private static void truthIs(String what, QueryRunner x, int e, int want) {
        x.condition(0, e);
        due.is(what + ", where", x.run(), want == TRUE ? 1 : 0);
        x.condition(0, x.op(11, e, 0));
        due.is(what + ", where not", x.run(), want == FALSE ? 1 : 0);
    }

    private static int truth(QueryRunner x, int which) {
        int one = x.constant(1, false);
        return x.op(5, one, which == TRUE ? one : which == FALSE ? x.constant(2, false) : x.constant(0, true));
    }

    // Numbers, then what / 0 is: expressions that go wrong when they are worked out.
    private static int trap(QueryRunner x) {
        int zero = x.constant(0, false);
        return x.op(3, x.constant(1, false), zero);
    }

    private static void nullValues() {
        for (int kind = 0; kind <= 4; kind++) {
            QueryRunner x = oneRow();
            int none = x.constant(0, true);
            x.item(x.op(kind, 0, none));
            x.item(x.op(kind, none, 0));
            x.item(x.op(kind, none, none));
            x.item(x.op(kind, none, x.constant(0, false)));
            due.answers("op " + kind + " with NULL", x, "5 - - - -");
        }
    }

    private static void comparisons() {
        Long[] values = {1L, 2L, null};
        for (Long a : values) {
            for (Long b : values) {
                for (int kind = 5; kind <= 8; kind++) {
                    QueryRunner x = oneRow();
                    int e = x.op(kind, number(x, a), number(x, b));
                    boolean is = a != null && b != null
                            && (kind == 5 ? a.equals(b) : kind == 6 ? !a.equals(b) : kind == 7 ? a < b : a <= b);
                    truthIs(a + " op " + kind + " " + b, x, e, a == null || b == null ? UNSURE : is ? TRUE : FALSE);
                }
            }
        }
    }

    private static void junctions() {
        int[][] and = {{FALSE, FALSE, FALSE}, {FALSE, TRUE, UNSURE}, {FALSE, UNSURE, UNSURE}};
        int[][] or = {{FALSE, TRUE, UNSURE}, {TRUE, TRUE, TRUE}, {UNSURE, TRUE, UNSURE}};
        for (int a = 0; a < 3; a++) {
            for (int b = 0; b < 3; b++) {
                QueryRunner x = oneRow();
                int first = truth(x, a);
                int second = truth(x, b);
                truthIs(a + " AND " + b, x, x.op(9, first, second), and[a][b]);
                truthIs(a + " OR " + b, x, x.op(10, first, second), or[a][b]);
            }
        }
    }

    private static void negations() {
        for (int a = 0; a < 3; a++) {
            QueryRunner x = oneRow();
            truthIs("NOT " + a, x, x.op(11, truth(x, a), 0), a == UNSURE ? UNSURE : 1 - a);
        }
        QueryRunner x = oneRow();
        int e = x.op(12, 0, 0);
        for (int i = 0; i < 58; i++) {
            int next = x.op(11, e, 0);
            if (next >= 0) {
                e = next;
            }
        }
        due.is("the deepest expression", e, 59);
        x.condition(0, e);
        due.answers("58 times NOT", x);
        x.condition(0, e - 1);
        due.answers("57 times NOT", x, "5");
    }

    private static void isNulls() {
        QueryRunner x = oneRow();
        truthIs("5 IS NULL", x, x.op(12, 0, 0), FALSE);
        truthIs("NULL IS NULL", x, x.op(12, x.constant(0, true), 0), TRUE);
        truthIs("0 IS NULL", x, x.op(12, x.constant(0, false), 0), FALSE);
        truthIs("NULL + 5 IS NULL", x, x.op(12, x.op(0, x.constant(0, true), 0), 0), TRUE);
        x.condition(0, x.op(12, trap(x), 0));
        due.ends("1 / 0 IS NULL", x, -20);
    }

    private static void whatIsNotWorkedOut() {
        QueryRunner x = oneRow();
        int trapped = x.op(5, trap(x), 0);
        truthIs("FALSE AND trap", x, x.op(9, truth(x, FALSE), trapped), FALSE);
        truthIs("TRUE OR trap", x, x.op(10, truth(x, TRUE), trapped), TRUE);
    }

    private static void whatIsWorkedOut() {
        int[][] pairs = {{9, TRUE}, {9, UNSURE}, {10, FALSE}, {10, UNSURE}};
        for (int[] pair : pairs) {
            QueryRunner x = oneRow();
            x.condition(0, x.op(pair[0], truth(x, pair[1]), x.op(5, trap(x), 0)));
            due.ends("op " + pair[0] + " of " + pair[1] + " and trap", x, -20);
        }
        for (int kind = 9; kind <= 10; kind++) {
            QueryRunner x = oneRow();
            x.condition(0, x.op(kind, x.op(5, trap(x), 0), truth(x, kind == 9 ? FALSE : TRUE)));
            due.ends("the first one is worked out first, op " + kind, x, -20);
        }
        for (int kind = 0; kind <= 8; kind++) {
            QueryRunner x = oneRow();
            int none = x.constant(0, true);
            int trapped = x.op(kind, none, trap(x));
            x.condition(0, kind < 5 ? x.op(12, trapped, 0) : trapped);
            due.ends("NULL op " + kind + " trap", x, -20);
            int huge = x.op(2, x.constant(1000000000000L, false), x.constant(1001, false));
            int both = x.op(kind, huge, trap(x));
            x.condition(0, kind < 5 ? x.op(12, both, 0) : both);
            due.ends("huge op " + kind + " trap", x, -21);
        }
    }

    private static void divisions() {
        for (int kind = 3; kind <= 4; kind++) {
            QueryRunner x = oneRow();
            x.item(x.op(kind, 0, x.constant(0, false)));
            due.ends("5 by 0", x, -20);
            x = oneRow();
            x.item(x.op(kind, x.constant(0, false), x.constant(0, false)));
            due.ends("0 by 0", x, -20);
            x = oneRow();
            x.item(x.op(kind, x.constant(0, true), x.constant(0, false)));
            x.item(x.op(kind, x.constant(0, false), x.constant(0, true)));
            due.answers("NULL by 0, 0 by NULL", x, "5 - -");
        }
    }

    // 10^15 by a product, then one more or one less.
    private static void limits() {
        QueryRunner x = oneRow();
        int most = x.op(2, x.constant(1000000000000L, false), x.constant(1000, false));
        int least = x.op(2, x.constant(-1000000000000L, false), x.constant(1000, false));
        int one = x.constant(1, false);
        x.item(most);
        x.item(least);
        x.item(x.op(1, most, one));
        x.item(x.op(0, most, x.op(1, least, x.constant(-7, false))));
        due.answers("at the limits", x, "5 1000000000000000 -1000000000000000 999999999999999 7");
        due.is("item", x.item(x.op(0, most, one)), 5);
        due.ends("one above", x, -21);
        x = oneRow();
        least = x.op(2, x.constant(-1000000000000L, false), x.constant(1000, false));
        x.item(x.op(1, least, x.constant(1, false)));
        due.ends("one below", x, -21);
        x = oneRow();
        most = x.op(2, x.constant(1000000000000L, false), x.constant(1000, false));
        x.item(x.op(0, most, x.op(1, x.op(0, most, x.constant(1, false)), most)));
        due.ends("a part above", x, -21);
    }

    private static void products() {
        long[][] pairs = {{1000000000000L, 1001}, {-1000000000000L, 1001}, {1000000000000L, -1001},
            {-1000000000000L, -1001}, {31622777, 31622777}, {1000000000000L, 1000000000000L},
            {3037000500L, 3037000500L}, {333333333334L, 3001}, {4294967296L, 4294967296L},
            {-4294967296L, 4294967296L}, {4294967296L, -4294967296L}, {-4294967296L, -4294967296L}};
        for (long[] pair : pairs) {
            QueryRunner x = oneRow();
            x.item(x.op(2, x.constant(pair[0], false), x.constant(pair[1], false)));
            due.ends(pair[0] + " * " + pair[1], x, -21);
        }
        QueryRunner x = oneRow();
        int most = x.op(2, x.constant(1000000000000L, false), x.constant(-1000, false));
        x.item(x.op(2, x.constant(31622776, false), x.constant(-31622776, false)));
        x.item(x.op(2, most, x.constant(-1, false)));
        x.item(x.op(2, most, x.constant(0, false)));
        x.item(x.op(2, x.constant(0, false), most));
        due.answers("products within", x, "5 -999999961946176 1000000000000000 0 0");
        x.item(x.op(2, most, most));
        due.ends("a product that no long holds", x, -21);
    }
}
