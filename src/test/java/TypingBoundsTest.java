/** Each sentence of "Sheet" and "Typing", and of promises 1 to 5, that names a boundary, from both its sides. */
public final class TypingBoundsTest {
    private static final int[] WILD = {-1, -2, 99, Integer.MIN_VALUE, Integer.MAX_VALUE};

    public static void main(String[] args) {
        aNewObject();
        sixOfBoth();
        atMostTenRows();
        atMostEightColumns();
        placesFromZero();
        noSuchRowOrColumn();
        lettersAndDigits();
        manyCalls();
        characters();
        allCharacters();
        fortyCharacters();
        erasing();
        nothingTyped();
        beginsWithEquals();
        atLeastOneDigit();
        atMostNineDigits();
        minusAhead();
        digitsBehindThePoint();
        aTextOtherwise();
        theHandOfEnter();
        theCellOfEnter();
        theFormulaOfEnter();
        whatEnterThrowsFirst();
        nothingIsTypedThen();
        theNameOfDefine();
        whatDefineTakes();
        whatDefineThrowsFirst();
        howManyNames();
        Check.end();
    }

    private static void aNewObject() {
        Check.says("Creates an empty sheet, with nothing typed and without names.");
        Check c = new Check();
        for (int row = 0; row < 6; row++) {
            for (int column = 0; column < 6; column++) {
                Check.same("contentAt", c.sheet.contentAt(row, column), 'b');
                Check.same("kindAt", c.sheet.kindAt(row, column), 'b');
                Check.same("kindByAll", c.sheet.kindByAll(row, column), 'b');
                Check.same("readers", c.sheet.readers(row, column), 0);
            }
            Check.same("hide", c.sheet.hide(row, false), false);
        }
        Check.same("errors", c.sheet.errors(), 0);
        Check.same("filledShare", c.sheet.filledShare(), 0.0f);
        Check.same("isSound", c.sheet.isSound(), true);
        Check.same("erase", c.sheet.erase(), 0);
        Check.same("names", c.sheet.define('A'), 0);
        for (int hand = 0; hand < 3; hand++) {
            int at = hand;
            Check.same("kept", c.sheet.kept(hand), 0);
            Check.none("undo", () -> c.sheet.undo(at));
        }
        Check.outside("writtenAt", () -> c.sheet.writtenAt(0));
    }

    private static void sixOfBoth() {
        Check.says("The sheet has rows and columns, at first 6 of both");
        Check c = new Check();
        Check.same("rows", c.sheet.rows(), 6);
        Check.same("columns", c.sheet.columns(), 6);
        Check.same("the last cell", c.put("f5", "1"), 'n');
        Check.outside("a seventh row", () -> c.sheet.contentAt(6, 5));
        Check.outside("a seventh column", () -> c.sheet.contentAt(5, 6));
    }

    private static void atMostTenRows() {
        Check.says("at most 10 rows");
        Check c = new Check();
        for (int count = 7; count <= 10; count++) {
            Check.same("insertRow", c.sheet.insertRow(0, 0), count);
        }
        c.throwingSame("an eleventh row", IllegalStateException.class, () -> c.sheet.insertRow(0, 0));
        c.throwingSame("an eleventh row", IllegalStateException.class, () -> c.sheet.insertRow(1, 10));
        Check.same("rows", c.sheet.rows(), 10);
        Check.same("the tenth row", c.put("a9", "1"), 'n');
        c.sheet.removeRow(0, 0);
        Check.same("room again", c.sheet.insertRow(0, 9), 10);
        Check.same("columns", c.sheet.columns(), 6);
    }

    private static void atMostEightColumns() {
        Check.says("at most 8 columns");
        Check c = new Check();
        Check.same("insertColumn", c.sheet.insertColumn(0, 0), 7);
        Check.same("insertColumn", c.sheet.insertColumn(0, 0), 8);
        c.throwingSame("a ninth column", IllegalStateException.class, () -> c.sheet.insertColumn(0, 0));
        c.throwingSame("a ninth column", IllegalStateException.class, () -> c.sheet.insertColumn(1, 8));
        Check.same("columns", c.sheet.columns(), 8);
        Check.same("the eighth column", c.put("h0", "1"), 'n');
        c.sheet.removeColumn(0, 0);
        Check.same("room again", c.sheet.insertColumn(0, 7), 8);
        Check.same("rows", c.sheet.rows(), 6);
    }

    private static void placesFromZero() {
        Check.says("with places from 0 on");
        Check c = new Check();
        Check.same("contentAt", c.sheet.contentAt(0, 0), 'b');
        for (int place : WILD) {
            Check.outside("contentAt row " + place, () -> c.sheet.contentAt(place, 0));
            Check.outside("contentAt column " + place, () -> c.sheet.contentAt(0, place));
        }
        c.grow();
        Check.same("the last one of all", c.sheet.contentAt(9, 7), 'b');
        Check.outside("row 10", () -> c.sheet.contentAt(10, 0));
        Check.outside("column 8", () -> c.sheet.contentAt(0, 8));
        // The product of a place and a width comes round to 0 there.
        Check.outside("row 2 to the 29th", () -> c.sheet.contentAt(1 << 29, 0));
    }

    /** A call with a cell. */
    private interface CellCall {
        void run(LedgerleafSheets sheet, int row, int column);
    }

    private static boolean isOutside(CellCall call, LedgerleafSheets sheet, int row, int column) {
        try {
            call.run(sheet, row, column);
        } catch (IndexOutOfBoundsException e) {
            return true;
        } catch (java.util.NoSuchElementException e) {
            return false;
        }
        return false;
    }

    private static void cells(String what, int rows, int columns, CellCall call) {
        Check c = new Check();
        while (c.sheet.rows() < rows) {
            c.sheet.insertRow(1, 0);
        }
        while (c.sheet.columns() < columns) {
            c.sheet.insertColumn(1, 0);
        }
        while (c.sheet.rows() > rows) {
            c.sheet.removeRow(1, 0);
        }
        while (c.sheet.columns() > columns) {
            c.sheet.removeColumn(1, 0);
        }
        c.put("a0", "5");
        for (int row = -1; row <= 10; row++) {
            for (int column = -1; column <= 8; column++) {
                boolean isThere = row >= 0 && row < rows && column >= 0 && column < columns;
                Check.same(what + " of " + row + " " + column, isOutside(call, c.sheet, row, column), !isThere);
            }
        }
    }

    private static void noSuchRowOrColumn() {
        Check.says("Throws IndexOutOfBoundsException if there is no such row or column");
        for (int rows : new int[] {2, 6, 9}) {
            int columns = rows == 2 ? 8 : rows == 6 ? 6 : 1;
            cells("enter", rows, columns, (sheet, row, column) -> sheet.enter(0, row, column));
            cells("fill from", rows, columns, (sheet, row, column) -> sheet.fill(0, row, column, 0, 0));
            cells("fill to", rows, columns, (sheet, row, column) -> sheet.fill(0, 0, 0, row, column));
            cells("sortRows", rows, columns, (sheet, row, column) -> sheet.sortRows(0, column, row, row));
            cells("sortRows to", rows, columns, (sheet, row, column) -> sheet.sortRows(0, column, Math.min(0, row), row));
            cells("kindAt", rows, columns, (sheet, row, column) -> sheet.kindAt(row, column));
            cells("numberAt", rows, columns, (sheet, row, column) -> sheet.numberAt(row, column));
            cells("errorAt", rows, columns, (sheet, row, column) -> sheet.errorAt(row, column));
            cells("textLength", rows, columns, (sheet, row, column) -> sheet.textLength(row, column));
            cells("textAt", rows, columns, (sheet, row, column) -> sheet.textAt(row, column, 0));
            cells("kindByAll", rows, columns, (sheet, row, column) -> sheet.kindByAll(row, column));
            cells("numberByAll", rows, columns, (sheet, row, column) -> sheet.numberByAll(row, column));
            cells("spillOf", rows, columns, (sheet, row, column) -> sheet.spillOf(row, column));
            cells("readers", rows, columns, (sheet, row, column) -> sheet.readers(row, column));
            cells("contentAt", rows, columns, (sheet, row, column) -> sheet.contentAt(row, column));
            cells("write", rows, columns, (sheet, row, column) -> sheet.write(row, column));
            cells("bitsOf", rows, columns, (sheet, row, column) -> sheet.bitsOf(row, column));
        }
    }

    private static void lettersAndDigits() {
        Check.says("a column is told by a letter from 'a' to 'h', a row by a digit from '0' to '9', by the places");
        Check c = new Check();
        c.refuses("a0", "=g0");
        c.refuses("a0", "=a6");
        c.grow();
        Check.same("the first and the last letter", c.put("c3", "=a5+h5"), 'f');
        Check.same("the first and the last digit", c.put("c3", "=b0+b9"), 'f');
        Check.same("both", c.put("c3", "=h9"), 'f');
        c.refuses("c3", "=i0");
        c.refuses("c3", "=`0");
        c.refuses("c3", "=a:");
        c.refuses("c3", "=a/");
        c.writes("c3", "=h9");
        c.sheet.removeRow(0, 0);
        c.sheet.removeColumn(0, 0);
        c.writes("b2", "=g8");
        c.refuses("b2", "=h0");
        c.refuses("b2", "=a9");
    }

    private static void manyCalls() {
        Check.says("An object is used for at most 512 calls");
        LedgerleafSheets sheet = new LedgerleafSheets();
        int calls = 0;
        for (char character : "=a0+1".toCharArray()) {
            sheet.type(character);
            calls++;
        }
        sheet.enter(0, 0, 0);
        calls++;
        while (calls < 508) {
            sheet.fill(0, 0, 0, calls % 6, calls / 6 % 6);
            sheet.isSound();
            calls += 2;
        }
        Check.same("passes", sheet.passes(), 40);
        Check.same("errorAt", sheet.errorAt(0, 0), 'c');
        Check.same("kept", sheet.kept(0), 8);
        Check.same("undo, the 512th", sheet.undo(0), 7);
    }

    private static void characters() {
        Check.says("Throws IllegalArgumentException if it is not from 32 to 126");
        Check c = new Check();
        Check.same("32", c.sheet.type((char) 32), 1);
        Check.same("126", c.sheet.type((char) 126), 2);
        for (int character : new int[] {31, 127, 0, 10, 128, 255, 256 + 65, 65535}) {
            Check.illegal("type " + character, () -> c.sheet.type((char) character));
        }
        Check.same("none of them was typed", c.sheet.erase(), 2);
    }

    private static void allCharacters() {
        Check.says("Types a character.");
        Check c = new Check();
        for (int from = 32; from <= 126; from += 19) {
            for (int i = 0; i < 19; i++) {
                Check.same("type", c.sheet.type((char) (from + i)), i + 1);
            }
            Check.same("enter", c.sheet.enter(0, 0, 0), 't');
            Check.same("textLength", c.sheet.textLength(0, 0), 19);
            for (int i = 0; i < 19; i++) {
                Check.same("textAt", c.sheet.textAt(0, 0, i), from + i);
            }
        }
    }

    private static void fortyCharacters() {
        Check.says("At most 40 characters are typed.");
        Check c = new Check();
        for (int count = 1; count <= 40; count++) {
            Check.same("type", c.sheet.type((char) (64 + count)), count);
        }
        Check.state("a 41st", () -> c.sheet.type('z'));
        Check.illegal("a 41st that is none", () -> c.sheet.type((char) 31));
        Check.same("enter", c.sheet.enter(0, 0, 0), 't');
        Check.same("textLength", c.sheet.textLength(0, 0), 40);
        Check.same("the last one", c.sheet.textAt(0, 0, 39), 104);
        Check.same("a formula of 40", c.put("a1", "=sum(1,2,3,4,5,6,7,8,9,1,2,3,4,5,6,7,80)"), 'f');
    }

    private static void erasing() {
        Check.says("Erases what is typed. Returns how many were typed.");
        Check c = new Check();
        Check.same("of none", c.sheet.erase(), 0);
        c.type("x");
        Check.same("of one", c.sheet.erase(), 1);
        Check.same("of none again", c.sheet.erase(), 0);
        c.type("0123456789012345678901234567890123456789");
        Check.same("of 40", c.sheet.erase(), 40);
        Check.same("type behind it", c.sheet.type('7'), 1);
        Check.same("enter", c.sheet.enter(0, 0, 0), 'n');
        c.holds("a0", "7.0");
        Check.same("erase leaves what is entered", c.sheet.erase(), 0);
        c.holds("a0", "7.0");
    }

    private static void nothingTyped() {
        Check.says("nothing, if there are no characters");
        Check c = new Check();
        c.put("a0", "5");
        Check.same("enter", c.sheet.enter(1, 0, 0), 'b');
        Check.same("contentAt", c.sheet.contentAt(0, 0), 'b');
        c.holds("a0", "");
        Check.same("a blank is a character", c.put("a0", " "), 't');
        c.holds("a0", "' ");
    }

    private static void beginsWithEquals() {
        Check.says("a formula, if it begins with '='");
        Check c = new Check();
        Check.same("=1", c.put("a0", "=1"), 'f');
        Check.same("1=1", c.put("a0", "1=1"), 't');
        Check.same(" =1", c.put("a0", " =1"), 't');
        Check.same("-=1", c.put("a0", "-=1"), 't');
        c.refuses("a0", "=");
        c.refuses("a0", "==1");
        c.holds("a0", "'-=1");
    }

    private static void number(String letters, double number) {
        Check c = new Check();
        Check.same(letters, c.put("a0", letters), 'n');
        Check.same(letters, c.sheet.numberAt(0, 0), number);
    }

    private static void text(String letters) {
        Check c = new Check();
        Check.same(letters, c.put("a0", letters), 't');
        c.holds("a0", "'" + letters);
    }

    private static void atLeastOneDigit() {
        Check.says("a number, if it is digits, at least one");
        number("0", 0.0);
        number("9", 9.0);
        text("-");
        text(".");
        text(".5");
        text("-.5");
        text("-.");
        text("/");
        text(":");
    }

    private static void atMostNineDigits() {
        Check.says("at most 9");
        number("99999999", 99999999.0);
        number("999999999", 999999999.0);
        number("000000007", 7.0);
        number("-999999999", -999999999.0);
        number("999999999.9999", 999999999.9999);
        text("1234567890");
        text("0000000000");
        text("-1234567890");
        text("1234567890.5");
    }

    private static void minusAhead() {
        Check.says("perhaps with '-' ahead");
        number("-5", -5.0);
        number("-0.25", -0.25);
        text("--5");
        text("+5");
        text("5-");
        text("- 5");
    }

    private static void digitsBehindThePoint() {
        Check.says("perhaps with '.' and more digits, 1 to 4, behind");
        number("1.0", 1.0);
        number("1.5", 1.5);
        number("0.1234", 0.1234);
        number("-2.0001", -2.0001);
        text("1.");
        text("-1.");
        text("1.12345");
        text("1.00000");
        text("1.5.5");
        text("1..5");
        text("1.-5");
        text("1,5");
    }

    private static void aTextOtherwise() {
        Check.says("a text otherwise");
        text("x");
        text("1x");
        text("x1");
        text("1 ");
        text(" 1");
        text("1e5");
        text("a0");
        text("\"");
        text("#");
    }

    private static void theHandOfEnter() {
        Check.says("There are the hands 0 to 2");
        Check c = new Check();
        for (int hand = 0; hand < 3; hand++) {
            c.type("7");
            Check.same("enter", c.sheet.enter(hand, 0, hand), 'n');
            Check.same("kept", c.sheet.kept(hand), 1);
        }
        c.type("8");
        for (int hand : new int[] {-1, 3, 4, Integer.MIN_VALUE, Integer.MAX_VALUE}) {
            c.throwingSame("enter of " + hand, IllegalArgumentException.class, () -> c.sheet.enter(hand, 0, 0));
            Check.illegal("fill of " + hand, () -> c.sheet.fill(hand, 0, 0, 1, 1));
            Check.illegal("insertRow of " + hand, () -> c.sheet.insertRow(hand, 0));
            Check.illegal("insertColumn of " + hand, () -> c.sheet.insertColumn(hand, 0));
            Check.illegal("removeRow of " + hand, () -> c.sheet.removeRow(hand, 0));
            Check.illegal("removeColumn of " + hand, () -> c.sheet.removeColumn(hand, 0));
            Check.illegal("sortRows of " + hand, () -> c.sheet.sortRows(hand, 0, 0, 1));
            Check.illegal("undo of " + hand, () -> c.sheet.undo(hand));
            Check.illegal("kept of " + hand, () -> c.sheet.kept(hand));
        }
        Check.same("still typed", c.sheet.erase(), 1);
        c.holds("a0", "c0", "7.0 7.0 7.0");
        Check.same("rows", c.sheet.rows(), 6);
        Check.same("columns", c.sheet.columns(), 6);
    }

    private static void theCellOfEnter() {
        Check.says("Throws IndexOutOfBoundsException if there is no such row or column");
        Check c = new Check();
        c.type("7");
        for (int place : new int[] {6, -1, 10, Integer.MIN_VALUE, Integer.MAX_VALUE}) {
            c.throwingSame("row " + place, IndexOutOfBoundsException.class, () -> c.sheet.enter(0, place, 0));
            c.throwingSame("column " + place, IndexOutOfBoundsException.class, () -> c.sheet.enter(0, 0, place));
        }
        Check.same("the last cell", c.sheet.enter(0, 5, 5), 'n');
        c.type("8");
        c.sheet.removeRow(1, 0);
        c.throwingSame("a row that was", IndexOutOfBoundsException.class, () -> c.sheet.enter(0, 5, 5));
        c.sheet.insertRow(1, 5);
        c.sheet.insertColumn(1, 6);
        Check.same("a column that came", c.sheet.enter(0, 5, 6), 'n');
    }

    private static void theFormulaOfEnter() {
        Check.says("Throws UnsupportedOperationException if it is a formula that can not be read");
        Check c = new Check();
        c.put("a0", "5");
        c.type("=a0+");
        c.throwingSame("enter", UnsupportedOperationException.class, () -> c.sheet.enter(0, 0, 0));
        Check.same("the rest may be typed", c.sheet.type('1'), 5);
        Check.same("enter", c.sheet.enter(0, 1, 1), 'f');
        c.holds("b1", "6.0");
    }

    private static void whatEnterThrowsFirst() {
        Check.says("If several exceptions apply, the one that is listed first is thrown.");
        Check c = new Check();
        c.type("=");
        Check.illegal("hand, cell and formula", () -> c.sheet.enter(3, 6, 6));
        Check.illegal("hand and formula", () -> c.sheet.enter(-1, 0, 0));
        Check.outside("cell and formula", () -> c.sheet.enter(0, 6, 0));
        Check.refused("formula", () -> c.sheet.enter(0, 0, 0));
    }

    private static void nothingIsTypedThen() {
        Check.says("Enters what is typed into a cell; nothing is typed then.");
        Check c = new Check();
        for (String letters : new String[] {"5", "x", "=1", ""}) {
            c.put("a0", letters);
            Check.same("erase behind " + letters, c.sheet.erase(), 0);
        }
        c.put("a0", "5");
        Check.same("enter again", c.sheet.enter(0, 0, 0), 'b');
    }

    private static void theNameOfDefine() {
        Check.says("a name, a letter from 'A' to 'F'");
        Check c = new Check();
        for (char name = 'A'; name <= 'F'; name++) {
            Check.same("define " + name, c.name(name, "=" + (name - 'A')), name - 'A' + 1);
        }
        c.gives("=A*100+B*10+F", "15.0");
        c.type("=1");
        for (int name : new int[] {'@', 'G', 'a', 'f', ' ', 0, 65535, 'Z', 256 + 'A'}) {
            c.throwingSame("define " + name, IllegalArgumentException.class, () -> c.sheet.define((char) name));
        }
        Check.same("still typed", c.sheet.erase(), 2);
    }

    private static void whatDefineTakes() {
        Check.says("Gives a name what is typed, which must be a formula or nothing; nothing is typed then.");
        Check c = new Check();
        Check.same("a formula", c.name('C', "=7"), 1);
        Check.same("nothing is typed then", c.sheet.erase(), 0);
        for (String letters : new String[] {"7", "-7.5", "x", " ", "C", "=", "=1+", "=g0", "=----------1"}) {
            c.type(letters);
            c.throwingSame(letters, UnsupportedOperationException.class, () -> c.sheet.define('C'));
            Check.same("still typed", c.sheet.erase(), letters.length());
        }
        c.gives("=C", "7.0");
        Check.same("nothing", c.sheet.define('C'), 0);
        c.gives("=C", "!n");
    }

    private static void whatDefineThrowsFirst() {
        Check.says("If several exceptions apply, the one that is listed first is thrown.");
        Check c = new Check();
        c.type("7");
        Check.illegal("name and number", () -> c.sheet.define('G'));
        Check.refused("number", () -> c.sheet.define('A'));
    }

    private static void howManyNames() {
        Check.says("Returns how many names have formulas.");
        Check c = new Check();
        Check.same("nothing", c.name('A', ""), 0);
        Check.same("the first one", c.name('B', "=1"), 1);
        Check.same("it again", c.name('B', "=2"), 1);
        for (char name = 'A'; name <= 'F'; name++) {
            c.name(name, "=1");
        }
        Check.same("all six", c.name('F', "=2"), 6);
        Check.same("five", c.name('A', ""), 5);
        Check.same("five", c.name('A', ""), 5);
        Check.none("a name is no edit of a hand", () -> c.sheet.undo(0));
    }
}
