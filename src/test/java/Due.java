/** Counts and prints the calls whose answer is not the one that is due. */
final class Due {
    private final String name;
    private int checked = 0;
    private int wrong = 0;

    Due(String name) {
        this.name = name;
    }

    void is(String what, long got, long want) {
        checked++;
        if (got != want) {
            wrong++;
            System.out.println(name + ": " + what + " answered " + got + ", due is " + want);
        }
    }

    void is(String what, boolean got, boolean want) {
        is(what, got ? 1 : 0, want ? 1 : 0);
    }

    /** The whole answer: a row a text, items divided by blanks, NULL as a dash. */
    void answers(String what, QueryRunner x, String... rows) {
        is(what + ": run()", x.run(), rows.length);
        is(what + ": answer(0)", x.answer(0), rows.length);
        for (int row = 0; row < rows.length; row++) {
            String[] items = rows[row].split(" ");
            is(what + ": answer(1)", x.answer(1), items.length);
            for (int i = 0; i < items.length; i++) {
                boolean isNull = items[i].equals("-");
                String cell = what + ": row " + row + ", item " + i;
                is(cell + ", isNull", x.isNull(row, i), isNull);
                is(cell + ", cell", x.cell(row, i), isNull ? 0 : Long.parseLong(items[i]));
            }
        }
    }

    /** A run that something ends: there is no answer behind it. */
    void ends(String what, QueryRunner x, int want) {
        is(what + ": run()", x.run(), want);
        is(what + ": answer(0)", x.answer(0), 0);
        is(what + ": answer(1)", x.answer(1), 0);
        is(what + ": cell(0, 0)", x.cell(0, 0), 0);
        is(what + ": isNull(0, 0)", x.isNull(0, 0), false);
    }

    void end() {
        System.out.println(name + ": " + checked + " answers, " + wrong + " not as due");
        if (wrong != 0 || checked == 0) {
            System.exit(1);
        }
    }
}
