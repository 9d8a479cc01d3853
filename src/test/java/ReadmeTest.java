/** The example in README.md, with the answers that it tells. */
public final class ReadmeTest {
    public static void main(String[] args) {
        LedgerleafSheets sheet = new LedgerleafSheets();
        valuesOf(sheet);
        namesOf(sheet);
        rowsOf(sheet);
        Check.end();
    }

    private static void valuesOf(LedgerleafSheets sheet) {
        type(sheet, "3");
        Check.same("enter 3", sheet.enter(0, 0, 0), 'n');
        type(sheet, "=a0*2");
        Check.same("enter =a0*2", sheet.enter(0, 0, 1), 'f');
        Check.same("twice", sheet.numberAt(0, 1), 6.0);
        type(sheet, "=seq(2,2)");
        Check.same("enter =seq(2,2)", sheet.enter(1, 1, 1), 'f');
        Check.same("last", sheet.numberAt(2, 2), 4.0);
        Check.same("from", sheet.spillOf(2, 2), 11);
    }

    private static void namesOf(LedgerleafSheets sheet) {
        type(sheet, "=A/0");
        Check.same("enter =A/0", sheet.enter(2, 3, 0), 'f');
        Check.same("unknown", sheet.errorAt(3, 0), 'n');
        type(sheet, "=b0+1");
        Check.same("define", sheet.define('A'), 1);
        Check.same("divided", sheet.errorAt(3, 0), 'd');
    }

    private static void rowsOf(LedgerleafSheets sheet) {
        Check.same("moved", sheet.insertRow(2, 0), 7);
        Check.same("length", sheet.write(1, 1), 5);
        Check.same("digit", sheet.writtenAt(2), '1');
        Check.same("left", sheet.undo(0), 1);
        Check.same("kind", sheet.contentAt(1, 1), 'b');
    }

    private static void type(LedgerleafSheets sheet, String letters) {
        for (int i = 0; i < letters.length(); i++) {
            sheet.type(letters.charAt(i));
        }
    }
}
