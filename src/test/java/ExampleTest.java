/** The document's first example. */
public final class ExampleTest {
    public static void main(String[] args) {
        LedgerleafSheets x = new LedgerleafSheets();
        Check.same("type", x.type('3'), 1);
        Check.same("enter", x.enter(0, 0, 0), 'n');
        typed(x, "=a0*2");
        Check.same("enter", x.enter(0, 0, 1), 'f');
        Check.same("numberAt", x.numberAt(0, 1), 6.0);
        Check.same("passes", x.passes(), 2);
        Check.same("workedOut", x.workedOut(), 1);
        typed(x, "=seq(2,2)");
        Check.same("enter", x.enter(1, 1, 1), 'f');
        Check.same("numberAt", x.numberAt(2, 2), 4.0);
        Check.same("spillOf", x.spillOf(2, 2), 11);
        typed(x, "x");
        Check.same("enter", x.enter(1, 2, 2), 't');
        Check.same("errorAt", x.errorAt(1, 1), 's');
        Check.same("textLength", x.textLength(2, 2), 1);
        Check.same("textAt", x.textAt(2, 2, 0), 'x');
        Check.same("undo", x.undo(1), 1);
        Check.same("kept", x.kept(1), 1);
        Check.same("fill", x.fill(0, 0, 1, 1, 0), 1);
        Check.same("write", x.write(1, 0), 4);
        Check.same("writtenAt", x.writtenAt(1), '#');
        Check.same("insertRow", x.insertRow(2, 0), 7);
        Check.same("sortRows", x.sortRows(2, 0, 0, 2), 2);
        Check.same("removeColumn", x.removeColumn(2, 5), 0);
        Check.same("hide", x.hide(0, true), false);
        Check.same("readers", x.readers(1, 0), 0);
        Check.same("kindByAll", x.kindByAll(0, 0), 'n');
        Check.same("errors", x.errors(), 1);
        Check.same("filledShare", x.filledShare(), 0.2f);
        Check.same("isSound", x.isSound(), true);
        Check.end();
    }

    private static void typed(LedgerleafSheets sheet, String letters) {
        for (int i = 0; i < letters.length(); i++) {
            Check.same("type", sheet.type(letters.charAt(i)), i + 1);
        }
    }
}
