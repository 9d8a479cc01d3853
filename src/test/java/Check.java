/** What the tests share: a sheet with short ways to call it, and the count of wrong answers. */
final class Check {
    static int wrong = 0;
    // What the document says there, told together with each wrong answer.
    private static String sentence = "";

    final LedgerleafSheets sheet = new LedgerleafSheets();

    /** A call that may throw. */
    interface Call {
        void run();
    }

    static void same(String what, long got, long want) {
        if (got != want) {
            tell(what, got + " (" + (char) got + ")", want + " (" + (char) want + ")");
        }
    }

    static void same(String what, String got, String want) {
        if (!want.equals(got)) {
            tell(what, got, want);
        }
    }

    static void same(String what, boolean got, boolean want) {
        if (got != want) {
            tell(what, "" + got, "" + want);
        }
    }

    static void same(String what, double got, double want) {
        if (Double.doubleToLongBits(got) != Double.doubleToLongBits(want)) {
            tell(what, "" + got, "" + want);
        }
    }

    /** Names the sentence of the document that the next answers are due by. */
    static void says(String words) {
        sentence = "\"" + words + "\": ";
    }

    private static void tell(String what, String got, String want) {
        wrong++;
        System.out.println(sentence + what + " answered " + got + ", due is " + want);
    }

    static void throwing(String what, Class<? extends RuntimeException> due, Call call) {
        RuntimeException met = null;
        try {
            call.run();
        } catch (RuntimeException e) {
            met = e;
        }
        if (met == null || met.getClass() != due) {
            tell(what, "" + met, due.getName());
        }
    }

    static void illegal(String what, Call call) {
        throwing(what, IllegalArgumentException.class, call);
    }

    static void state(String what, Call call) {
        throwing(what, IllegalStateException.class, call);
    }

    static void outside(String what, Call call) {
        throwing(what, IndexOutOfBoundsException.class, call);
    }

    static void none(String what, Call call) {
        throwing(what, java.util.NoSuchElementException.class, call);
    }

    static void refused(String what, Call call) {
        throwing(what, UnsupportedOperationException.class, call);
    }

    static void end() {
        if (wrong > 0) {
            System.out.println(wrong + " wrong");
            System.exit(1);
        }
    }

    Check type(String letters) {
        for (int i = 0; i < letters.length(); i++) {
            sheet.type(letters.charAt(i));
        }
        return this;
    }

    /** Enters a content into a cell told as in formulas, "a0". */
    char put(int hand, String cell, String letters) {
        sheet.erase();
        type(letters);
        return sheet.enter(hand, row(cell), column(cell));
    }

    char put(String cell, String letters) {
        return put(0, cell, letters);
    }

    int name(char name, String letters) {
        sheet.erase();
        type(letters);
        return sheet.define(name);
    }

    int fill(String from, String to) {
        return sheet.fill(0, row(from), column(from), row(to), column(to));
    }

    void refuses(String cell, String letters) {
        sheet.erase();
        type(letters);
        refused(letters, () -> sheet.enter(0, row(cell), column(cell)));
        sheet.erase();
    }

    static int row(String cell) {
        return cell.charAt(1) - '0';
    }

    static int column(String cell) {
        return cell.charAt(0) - 'a';
    }

    /** A value in short: "6.0", "'x", "" for blank, "!s" for an error. */
    String value(String cell) {
        int row = row(cell);
        int column = column(cell);
        switch (sheet.kindAt(row, column)) {
            case 'n':
                return "" + sheet.numberAt(row, column);
            case 't':
                StringBuilder text = new StringBuilder("'");
                for (int i = 0; i < sheet.textLength(row, column); i++) {
                    text.append(sheet.textAt(row, column, i));
                }
                return text.toString();
            case 'b':
                return "";
            case 'e':
                return "!" + sheet.errorAt(row, column);
            default:
                return "?";
        }
    }

    void holds(String cell, String want) {
        same("value of " + cell, value(cell), want);
    }

    /** The values of a block of cells, with blanks between them and "/" between the rows. */
    String block(String from, String to) {
        StringBuilder all = new StringBuilder();
        for (int row = row(from); row <= row(to); row++) {
            for (int column = column(from); column <= column(to); column++) {
                if (column > column(from)) {
                    all.append(' ');
                }
                all.append(value("" + (char) ('a' + column) + (char) ('0' + row)));
            }
            if (row < row(to)) {
                all.append('/');
            }
        }
        return all.toString();
    }

    void holds(String from, String to, String want) {
        same("values from " + from + " to " + to, block(from, to), want);
    }

    /** What a formula in f5 answers there. */
    void gives(String formula, String want) {
        put("f5", formula);
        same(formula, value("f5"), want);
        put("f5", "");
    }

    String written(String cell) {
        int length = sheet.write(row(cell), column(cell));
        StringBuilder letters = new StringBuilder();
        for (int i = 0; i < length; i++) {
            letters.append(sheet.writtenAt(i));
        }
        outside("writtenAt behind the end", () -> sheet.writtenAt(length));
        return letters.toString();
    }

    void writes(String cell, String want) {
        same("formula of " + cell, written(cell), want);
    }

    /** All that can be asked without changing anything, but what is typed and written. */
    String state() {
        StringBuilder all = new StringBuilder();
        all.append(sheet.rows()).append('x').append(sheet.columns());
        for (int hand = 0; hand < 3; hand++) {
            all.append(" kept ").append(sheet.kept(hand));
        }
        all.append(" passes ").append(sheet.passes()).append(" worked out ").append(sheet.workedOut());
        all.append(" errors ").append(sheet.errors()).append(" share ").append(sheet.filledShare());
        for (int row = 0; row < sheet.rows(); row++) {
            for (int column = 0; column < sheet.columns(); column++) {
                String cell = "" + (char) ('a' + column) + (char) ('0' + row);
                all.append('\n').append(cell).append(' ').append(sheet.contentAt(row, column));
                all.append(' ').append(value(cell)).append(' ').append(sheet.kindByAll(row, column));
                all.append(' ').append(sheet.readers(row, column)).append(' ').append(spill(cell));
            }
        }
        return all.toString();
    }

    /** From where an array was put down on a cell, or -1. */
    int spill(String cell) {
        try {
            return sheet.spillOf(row(cell), column(cell));
        } catch (java.util.NoSuchElementException e) {
            return -1;
        }
    }

    /** A call that throws, and changes neither the sheet nor what is typed and written. */
    void throwingSame(String what, Class<? extends RuntimeException> due, Call call) {
        String ahead = state();
        throwing(what, due, call);
        same("state behind " + what, state(), ahead);
    }

    /** Makes the sheet as large as it can be. */
    Check grow() {
        while (sheet.rows() < 10) {
            sheet.insertRow(2, sheet.rows());
        }
        while (sheet.columns() < 8) {
            sheet.insertColumn(2, sheet.columns());
        }
        return this;
    }

    /** Makes the sheet one cell. */
    Check shrink() {
        while (sheet.rows() > 1) {
            sheet.removeRow(2, sheet.rows() - 1);
        }
        while (sheet.columns() > 1) {
            sheet.removeColumn(2, sheet.columns() - 1);
        }
        return this;
    }

    int readers(String cell) {
        return sheet.readers(row(cell), column(cell));
    }
}
