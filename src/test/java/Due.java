/** Counts and prints the calls whose answer is not the one that is due. */
final class Due {
    private final String name;
    private String sentence = "";
    private int sentences = 0;
    private int checked = 0;
    private int checkedBefore = 0;
    private int wrong = 0;

    Due(String name) {
        this.name = name;
    }

    /** A sentence of the document: what is checked from here on is a test of it. */
    void says(String text) {
        endSentence();
        sentence = text + ": ";
        sentences++;
    }

    void is(String what, long got, long want) {
        checked++;
        if (got != want) {
            tell(what + " answered " + got + ", due is " + want);
        }
    }

    void is(String what, boolean got, boolean want) {
        is(what, got ? 1 : 0, want ? 1 : 0);
    }

    /** The whole answer: a row a text, items divided by blanks, NULL as a dash. */
    void answers(String what, QueryRunner x, String... rows) {
        is(what + ": run()", x.run(), rows.length);
        holds(what, x, rows);
    }

    /** The whole answer, as it stands without another run. */
    void holds(String what, QueryRunner x, String... rows) {
        is(what + ": answer(0)", x.answer(0), rows.length);
        for (int row = 0; row < rows.length; row++) {
            String[] items = rows[row].split(" ");
            if (row == 0) {
                is(what + ": answer(1)", x.answer(1), items.length);
            }
            for (int i = 0; i < items.length; i++) {
                boolean isNull = items[i].equals("-");
                String cell = what + ": row " + row + ", item " + i;
                is(cell + ", isNull", x.isNull(row, i), isNull);
                is(cell + ", cell", x.cell(row, i), isNull ? 0 : Long.parseLong(items[i]));
            }
        }
    }

    /** A run that something ends: there is no answer behind it. */
    void ends(String what, QueryRunner x, int want) {
        is(what + ": run()", x.run(), want);
        hasNoAnswer(what, x);
    }

    void hasNoAnswer(String what, QueryRunner x) {
        is(what + ": answer(0)", x.answer(0), 0);
        is(what + ": answer(1)", x.answer(1), 0);
        is(what + ": cell(0, 0)", x.cell(0, 0), 0);
        is(what + ": isNull(0, 0)", x.isNull(0, 0), false);
    }

    void end() {
        endSentence();
        System.out.println(name + ": " + (sentences == 0 ? "" : sentences + " sentences, ")
                + checked + " answers, " + wrong + " not as due");
        if (wrong != 0 || checked == 0) {
            System.exit(1);
        }
    }

    private void endSentence() {
        if (sentences != 0 && checked == checkedBefore) {
            tell("nothing was checked");
        }
        checkedBefore = checked;
    }

    private void tell(String what) {
        wrong++;
        System.out.println(name + ": " + sentence + what);
    }
}
