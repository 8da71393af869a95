/**
 * A source of three columns, (key, divisor, factor), with what goes wrong in chosen rows alone: with -20 where the
 * divisor is 0, with -21 where the factor is 1. So it can be seen which of two is worked out first.
 */
final class Traps {
    final int key;
    /** Values: 7 by the divisor; 10^12 times (1000 and the factor). */
    final int divided;
    final int huge;
    /** Truths, TRUE where nothing goes wrong. */
    final int dividedTruth;
    final int hugeTruth;

    Traps(QueryRunner x, int source) {
        key = x.column(source, 0);
        int most = x.constant(Given.MOST_VALUE, false);
        divided = x.op(3, x.constant(7, false), x.column(source, 1));
        huge = x.op(2, most, x.op(0, x.constant(1000, false), x.column(source, 2)));
        dividedTruth = x.op(8, divided, most);
        hugeTruth = x.op(8, most, huge);
    }

    /** A table of such rows: "." is one without a trap, "d" goes wrong with -20, "h" with -21, "b" with both. */
    static int table(QueryRunner x, String rows) {
        int table = x.table(3);
        for (int i = 0; i < rows.length(); i++) {
            char kind = rows.charAt(i);
            boolean isDivided = kind == 'd' || kind == 'b';
            boolean isHuge = kind == 'h' || kind == 'b';
            x.insert(table, i, isDivided ? 0 : 1, isHuge ? 1 : 0, 0, 0);
        }
        return table;
    }
}
