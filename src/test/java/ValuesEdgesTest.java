/** VALUES, TRUTHS, NULL and WRONG: a test for each sentence that names an edge. */
public final class ValuesEdgesTest {
    private static final long MOST = Given.MOST_RESULT;
    private static final long NULL = Given.NULL;
    private static final int PLUS = 0;
    private static final int MINUS = 1;
    private static final int TIMES = 2;
    private static final int DIVIDE = 3;
    private static final int REST = 4;
    private static final int FALSE = 0;
    private static final int TRUE = 1;
    private static final int UNSURE = 2;
    private static final Due due = new Due("ValuesEdgesTest");

    public static void main(String[] args) {
        nullValues();
        sums();
        differences();
        products();
        productsBeyondLongs();
        quotients();
        rests();
        byZero();
        byZeroWithNull();
        parts();
        comparisons();
        comparisonsOfNull();
        and();
        or();
        not();
        isNull();
        firstFirst();
        secondOfAnd();
        secondOfOr();
        secondAlways();
        deepest();
        due.end();
    }

    // One row of one item: an operator of two values.
    private static QueryRunner of(int kind, long a, long b) {
        QueryRunner x = Given.numbers(0);
        x.item(x.op(kind, Given.big(x, a), Given.big(x, b)));
        return x;
    }

    private static void gives(int kind, long a, long b, long want) {
        due.answers(a + " op " + kind + " " + b, of(kind, a, b), want == NULL ? "-" : "" + want);
    }

    private static void ends(int kind, long a, long b, int want) {
        due.ends(a + " op " + kind + " " + b, of(kind, a, b), want);
    }

    private static int truth(QueryRunner x, int which) {
        int zero = x.constant(0, false);
        return x.op(5, zero, which == TRUE ? zero : x.constant(1, which == UNSURE));
    }

    // What a truth is can be seen by two queries: WHERE it, WHERE NOT it.
    private static void truthIs(String what, QueryRunner x, int e, int want) {
        x.item(0);
        due.is(what + ": where", x.condition(0, e), 1);
        due.is(what + ": where, rows", x.run(), want == TRUE ? 1 : 0);
        due.is(what + ": where not", x.condition(0, x.op(11, e, 0)), 1);
        due.is(what + ": where not, rows", x.run(), want == FALSE ? 1 : 0);
    }

    private static void goesWrong(String what, QueryRunner x, int e, int want) {
        x.item(0);
        x.condition(0, e);
        due.ends(what, x, want);
    }

    private static void nullValues() {
        due.says("A value is NULL when one of an operator's two is");
        for (int kind = PLUS; kind <= REST; kind++) {
            gives(kind, NULL, 5, NULL);
            gives(kind, 5, NULL, NULL);
            gives(kind, NULL, NULL, NULL);
            gives(kind, NULL, MOST, NULL);
            gives(kind, -MOST, NULL, NULL);
            gives(kind, NULL, 1, NULL);
            gives(kind, 0, NULL, NULL);
        }
    }

    private static void sums() {
        due.says("WRONG: a result of 0 below -10^15 or above 10^15 (-21)");
        gives(PLUS, MOST, 0, MOST);
        gives(PLUS, MOST - 1, 1, MOST);
        gives(PLUS, 1, MOST - 1, MOST);
        gives(PLUS, -MOST, 0, -MOST);
        gives(PLUS, 1 - MOST, -1, -MOST);
        gives(PLUS, MOST, -MOST, 0);
        ends(PLUS, MOST, 1, -21);
        ends(PLUS, 1, MOST, -21);
        ends(PLUS, MOST - 1, 2, -21);
        ends(PLUS, MOST, MOST, -21);
        ends(PLUS, -MOST, -1, -21);
        ends(PLUS, 1 - MOST, -2, -21);
        ends(PLUS, -MOST, -MOST, -21);
    }

    private static void differences() {
        due.says("WRONG: a result of 1 below -10^15 or above 10^15 (-21)");
        gives(MINUS, MOST, 0, MOST);
        gives(MINUS, 0, MOST, -MOST);
        gives(MINUS, 0, -MOST, MOST);
        gives(MINUS, MOST - 1, -1, MOST);
        gives(MINUS, 1 - MOST, 1, -MOST);
        gives(MINUS, MOST, MOST, 0);
        gives(MINUS, -MOST, -MOST, 0);
        ends(MINUS, MOST, -1, -21);
        ends(MINUS, 1, -MOST, -21);
        ends(MINUS, -MOST, 1, -21);
        ends(MINUS, -1, MOST, -21);
        ends(MINUS, MOST, -MOST, -21);
        ends(MINUS, -MOST, MOST, -21);
    }

    private static void products() {
        due.says("WRONG: a result of 2 below -10^15 or above 10^15 (-21)");
        for (int sign = -1; sign <= 1; sign += 2) {
            for (int other = -1; other <= 1; other += 2) {
                int both = sign * other;
                gives(TIMES, sign * 1000000000000L, other * 1000L, both * MOST);
                gives(TIMES, sign * 1000L, other * 1000000000000L, both * MOST);
                gives(TIMES, sign * MOST, other, both * MOST);
                gives(TIMES, sign, other * MOST, both * MOST);
                gives(TIMES, sign * 99999L, other * 10000100001L, both * (MOST - 1));
                gives(TIMES, sign * 31622776L, other * 31622776L, both * 999999961946176L);
                ends(TIMES, sign * 1001L, other * 999000999001L, -21);
                ends(TIMES, sign * 999000999001L, other * 1001L, -21);
                ends(TIMES, sign * 31622777L, other * 31622777L, -21);
                ends(TIMES, sign * MOST, other * 2L, -21);
                ends(TIMES, sign * 2L, other * MOST, -21);
            }
            gives(TIMES, sign * MOST, 0, 0);
            gives(TIMES, 0, sign * MOST, 0);
        }
        gives(TIMES, 0, 0, 0);
    }

    private static void productsBeyondLongs() {
        due.says("WRONG: a result of 2 that no long holds (-21)");
        long[][] pairs = {{MOST, MOST}, {4294967296L, 4294967296L}, {1L << 49, 1L << 15}, {1L << 40, 1L << 24},
            {1L << 32, (1L << 32) + 1}, {6442450944L, 8589934592L}, {3037000500L, 3037000500L},
            {1000000000000L, 1000000000000L}, {274177, 67280421310721L}, {67280421310721L, 274177}};
        for (long[] pair : pairs) {
            ends(TIMES, pair[0], pair[1], -21);
            ends(TIMES, -pair[0], pair[1], -21);
            ends(TIMES, pair[0], -pair[1], -21);
            ends(TIMES, -pair[0], -pair[1], -21);
        }
    }

    private static void quotients() {
        due.says("VALUES: 3 / (cut towards 0)");
        gives(DIVIDE, 7, 2, 3);
        gives(DIVIDE, -7, 2, -3);
        gives(DIVIDE, 7, -2, -3);
        gives(DIVIDE, -7, -2, 3);
        gives(DIVIDE, 1, 2, 0);
        gives(DIVIDE, -1, 2, 0);
        gives(DIVIDE, 1, -2, 0);
        gives(DIVIDE, 0, 5, 0);
        gives(DIVIDE, 6, 3, 2);
        gives(DIVIDE, -6, 3, -2);
        gives(DIVIDE, MOST, 1, MOST);
        gives(DIVIDE, MOST, -1, -MOST);
        gives(DIVIDE, -MOST, -1, MOST);
        gives(DIVIDE, MOST, MOST, 1);
        gives(DIVIDE, MOST - 1, MOST, 0);
        gives(DIVIDE, 1 - MOST, MOST, 0);
    }

    private static void rests() {
        due.says("VALUES: 4 % (the sign of the first)");
        gives(REST, 7, 2, 1);
        gives(REST, -7, 2, -1);
        gives(REST, 7, -2, 1);
        gives(REST, -7, -2, -1);
        gives(REST, 5, 7, 5);
        gives(REST, -5, 7, -5);
        gives(REST, -5, -7, -5);
        gives(REST, 6, 3, 0);
        gives(REST, -6, 3, 0);
        gives(REST, 0, -5, 0);
        gives(REST, 9, 1, 0);
        gives(REST, 9, -1, 0);
        gives(REST, MOST, MOST - 1, 1);
        gives(REST, -MOST, MOST - 1, -1);
        gives(REST, -MOST, -1, 0);
        gives(REST, MOST, MOST, 0);
    }

    private static void byZero() {
        due.says("WRONG: a / or % with 0 as second (-20)");
        for (int kind = DIVIDE; kind <= REST; kind++) {
            for (long first : new long[] {0, 1, -1, MOST, -MOST}) {
                ends(kind, first, 0, -20);
            }
            QueryRunner x = Given.numbers(3);
            x.item(x.op(kind, 0, x.op(1, 0, 0)));
            due.ends("0 that was worked out", x, -20);
        }
        gives(DIVIDE, 0, 1, 0);
        gives(DIVIDE, 0, -1, 0);
    }

    private static void byZeroWithNull() {
        due.says("WRONG: with 0 as second (neither being NULL)");
        for (int kind = DIVIDE; kind <= REST; kind++) {
            gives(kind, NULL, 0, NULL);
            gives(kind, 0, NULL, NULL);
            QueryRunner x = Given.pairs(NULL, 0);
            x.item(x.op(kind, 0, 1));
            due.answers("a NULL of a table", x, "-");
        }
    }

    private static void parts() {
        due.says("WRONG: a part that goes beyond, whatever becomes of it");
        QueryRunner x = Given.numbers(0);
        int most = Given.big(x, MOST);
        int one = x.constant(1, false);
        int above = x.op(0, most, one);
        x.item(x.op(1, above, one));
        due.ends("one above, then one less", x, -21);
        QueryRunner y = Given.numbers(0);
        y.item(y.op(2, y.op(0, Given.big(y, MOST), y.constant(1, false)), y.constant(0, false)));
        due.ends("one above, then times 0", y, -21);
        QueryRunner z = Given.numbers(0);
        z.item(z.op(0, z.constant(0, true), z.op(1, Given.big(z, -MOST), z.constant(1, false))));
        due.ends("NULL and one below", z, -21);
        QueryRunner w = Given.numbers(0);
        w.item(w.op(3, w.op(1, Given.big(w, -MOST), w.constant(1, false)), w.constant(0, false)));
        due.ends("one below, by 0", w, -21);
    }

    private static void comparisons() {
        due.says("TRUTHS: 5 =, 6 not =, 7 <, 8 at most");
        long[][] pairs = {{4, 5}, {5, 5}, {6, 5}, {-MOST, MOST}, {MOST, -MOST}, {MOST, MOST}, {MOST - 1, MOST}, {-1, 0},
            {0, -1}, {0, 0}, {-MOST, -MOST}};
        for (long[] pair : pairs) {
            boolean[] want = {pair[0] == pair[1], pair[0] != pair[1], pair[0] < pair[1], pair[0] <= pair[1]};
            for (int kind = 5; kind <= 8; kind++) {
                QueryRunner x = Given.numbers(0);
                int e = x.op(kind, Given.big(x, pair[0]), Given.big(x, pair[1]));
                truthIs(pair[0] + " op " + kind + " " + pair[1], x, e, want[kind - 5] ? TRUE : FALSE);
            }
        }
    }

    private static void comparisonsOfNull() {
        due.says("5 to 8 are UNKNOWN when one of both is NULL");
        long[][] pairs = {{NULL, 0}, {0, NULL}, {NULL, NULL}, {NULL, MOST}, {-MOST, NULL}};
        for (long[] pair : pairs) {
            for (int kind = 5; kind <= 8; kind++) {
                QueryRunner x = Given.numbers(0);
                int e = x.op(kind, Given.big(x, pair[0]), Given.big(x, pair[1]));
                truthIs(pair[0] + " op " + kind + " " + pair[1], x, e, UNSURE);
            }
        }
    }

    private static void and() {
        due.says("AND is FALSE when one is, TRUE when both are; else UNKNOWN");
        for (int a = FALSE; a <= UNSURE; a++) {
            for (int b = FALSE; b <= UNSURE; b++) {
                int want = a == FALSE || b == FALSE ? FALSE : a == TRUE && b == TRUE ? TRUE : UNSURE;
                QueryRunner x = Given.numbers(0);
                truthIs(a + " AND " + b, x, x.op(9, truth(x, a), truth(x, b)), want);
            }
        }
    }

    private static void or() {
        due.says("OR is TRUE when one is, FALSE when both are; else UNKNOWN");
        for (int a = FALSE; a <= UNSURE; a++) {
            for (int b = FALSE; b <= UNSURE; b++) {
                int want = a == TRUE || b == TRUE ? TRUE : a == FALSE && b == FALSE ? FALSE : UNSURE;
                QueryRunner x = Given.numbers(0);
                truthIs(a + " OR " + b, x, x.op(10, truth(x, a), truth(x, b)), want);
            }
        }
    }

    private static void not() {
        due.says("NOT turns TRUE and FALSE; else UNKNOWN");
        int[] want = {TRUE, FALSE, UNSURE};
        for (int a = FALSE; a <= UNSURE; a++) {
            QueryRunner x = Given.numbers(0);
            truthIs("NOT " + a, x, x.op(11, truth(x, a), 0), want[a]);
        }
    }

    private static void isNull() {
        due.says("TRUTHS: of one value 12 IS NULL");
        QueryRunner x = Given.pairs(NULL, 0);
        truthIs("a NULL", x, x.op(12, 0, 0), TRUE);
        truthIs("a 0", x, x.op(12, 1, 0), FALSE);
        truthIs("what is NULL by its first", x, x.op(12, x.op(2, 0, 1), 0), TRUE);
        truthIs("what is NULL by its second", x, x.op(12, x.op(2, 1, 0), 0), TRUE);
        goesWrong("what goes wrong", x, x.op(12, Given.divided(x), 0), -20);
    }

    private static void firstFirst() {
        due.says("The first one is worked out first");
        for (int kind = 0; kind <= 10; kind++) {
            for (int i = 0; i <= 1; i++) {
                QueryRunner x = Given.numbers(0);
                int first = i == 0 ? Given.divided(x) : Given.huge(x);
                int second = i == 0 ? Given.huge(x) : Given.divided(x);
                int e = kind < 9 ? x.op(kind, first, second)
                        : x.op(kind, Given.asTruth(x, first), Given.asTruth(x, second));
                goesWrong("op " + kind, x, kind < 5 ? x.op(12, e, 0) : e, i == 0 ? -20 : -21);
            }
        }
    }

    private static void secondOfAnd() {
        due.says("the second one of AND is not, when the first is FALSE");
        QueryRunner x = Given.numbers(0);
        int trap = Given.asTruth(x, Given.divided(x));
        truthIs("FALSE", x, x.op(9, truth(x, FALSE), trap), FALSE);
        goesWrong("TRUE", x, x.op(9, truth(x, TRUE), trap), -20);
        goesWrong("UNKNOWN", x, x.op(9, truth(x, UNSURE), trap), -20);
        goesWrong("the first itself", x, x.op(9, trap, truth(x, FALSE)), -20);
    }

    private static void secondOfOr() {
        due.says("the second one of OR is not, when it is TRUE");
        QueryRunner x = Given.numbers(0);
        int trap = Given.asTruth(x, Given.huge(x));
        truthIs("TRUE", x, x.op(10, truth(x, TRUE), trap), TRUE);
        goesWrong("FALSE", x, x.op(10, truth(x, FALSE), trap), -21);
        goesWrong("UNKNOWN", x, x.op(10, truth(x, UNSURE), trap), -21);
        goesWrong("the first itself", x, x.op(10, trap, truth(x, TRUE)), -21);
    }

    private static void secondAlways() {
        due.says("the second one of all others is worked out, the first being NULL too");
        for (int kind = 0; kind <= 8; kind++) {
            QueryRunner x = Given.numbers(0);
            int e = x.op(kind, x.constant(0, true), Given.divided(x));
            goesWrong("NULL op " + kind, x, kind < 5 ? x.op(12, e, 0) : e, -20);
            QueryRunner y = Given.numbers(0);
            int f = y.op(kind, y.constant(0, false), Given.huge(y));
            goesWrong("0 op " + kind, y, kind < 5 ? y.op(12, f, 0) : f, -21);
        }
    }

    private static void deepest() {
        due.says("EXPRESSIONS: put together of 60, all of them worked out");
        QueryRunner x = Given.numbers(1);
        int e = x.op(12, 0, 0);
        for (int i = 0; i < 58; i++) {
            e = x.op(11, e, 0);
        }
        due.is("58 times NOT", e, 59);
        x.item(0);
        x.condition(0, e);
        due.answers("an even number of NOTs", x);
        x.condition(0, e - 1);
        due.answers("an odd number of NOTs", x, "1");
        QueryRunner y = Given.numbers(2);
        int left = 0;
        for (int i = 0; i < 29; i++) {
            left = y.op(1, left, 0);
        }
        y.item(left);
        due.answers("29 times less, from the left", y, "-56");
        QueryRunner z = Given.numbers(2);
        int right = 0;
        for (int i = 0; i < 29; i++) {
            right = z.op(1, 0, right);
        }
        z.item(right);
        due.answers("29 times less, from the right", z, "0");
        QueryRunner w = Given.numbers(0);
        int bottom = Given.divided(w);
        for (int i = 0; i < 28; i++) {
            bottom = w.op(0, 0, bottom);
        }
        w.item(bottom);
        due.ends("the deepest part goes wrong", w, -20);
    }
}
