/** Promises 7 to 14: rows and columns come, go, are sorted and hidden. */
public final class RowsTest {
    public static void main(String[] args) {
        insertingRows();
        insertingColumns();
        removing();
        removingAll();
        sorting();
        sortingMoves();
        sortingWrongly();
        hiding();
        Check.end();
    }

    private static void insertingRows() {
        Check c = new Check();
        c.put("a0", "1");
        c.put("a5", "6");
        c.put("b0", "=a5+sum(a0:a5)");
        Check.same("insertRow", c.sheet.insertRow(1, 1), 7);
        Check.same("insertRow at the end", c.sheet.insertRow(1, 7), 8);
        Check.same("insertRow at the start", c.sheet.insertRow(2, 0), 9);
        Check.same("rows", c.sheet.rows(), 9);
        c.holds("a1", "1.0");
        c.holds("a7", "6.0");
        c.holds("b1", "13.0");
        c.writes("b1", "=a7+sum(a1:a7)");
        Check.same("an empty row", c.sheet.contentAt(2, 0), 'b');
        c.put("a3", "10");
        c.holds("b1", "23.0");
        Check.same("kept", c.sheet.kept(1), 2);
        Check.same("insertRow", c.sheet.insertRow(0, 9), 10);
        c.throwingSame("no room", IllegalStateException.class, () -> c.sheet.insertRow(0, 0));
        c.throwingSame("no place, and no room", IndexOutOfBoundsException.class, () -> c.sheet.insertRow(0, 11));
        c.throwingSame("no place", IndexOutOfBoundsException.class, () -> c.sheet.insertRow(0, -1));
        c.throwingSame("no hand", IllegalArgumentException.class, () -> c.sheet.insertRow(3, 11));
        c.throwingSame("no hand", IllegalArgumentException.class, () -> c.sheet.insertRow(-1, 0));
        c.put("a9", "=a8+a9");
        Check.same("the tenth row", c.sheet.contentAt(9, 0), 'f');
    }

    private static void insertingColumns() {
        Check c = new Check();
        c.put("a0", "1");
        c.put("f0", "6");
        c.put("a1", "=f0+sum(a0:f0)");
        Check.same("insertColumn", c.sheet.insertColumn(1, 1), 7);
        c.writes("a1", "=g0+sum(a0:g0)");
        c.holds("a1", "13.0");
        c.throwingSame("no place", IndexOutOfBoundsException.class, () -> c.sheet.insertColumn(0, 8));
        Check.same("insertColumn at the end", c.sheet.insertColumn(1, 7), 8);
        Check.same("columns", c.sheet.columns(), 8);
        c.throwingSame("no room", IllegalStateException.class, () -> c.sheet.insertColumn(0, 8));
        c.throwingSame("no place, and no room", IndexOutOfBoundsException.class, () -> c.sheet.insertColumn(0, 9));
        c.throwingSame("no place", IndexOutOfBoundsException.class, () -> c.sheet.insertColumn(0, -1));
        c.throwingSame("no hand", IllegalArgumentException.class, () -> c.sheet.insertColumn(3, 9));
        c.put("h5", "8");
        c.put("a2", "=h5");
        c.holds("a2", "8.0");
    }

    private static void removing() {
        Check c = new Check();
        c.put("a0", "1");
        c.put("a1", "x");
        c.put("b1", "=seq(1,2)");
        c.put("d1", "=a1");
        c.put("a3", "=a1");
        c.put("b3", "=sum(a0:a2)");
        c.put("c3", "=sum(a1:a2)");
        Check.same("removeRow", c.sheet.removeRow(1, 1), 3);
        Check.same("rows", c.sheet.rows(), 5);
        c.holds("a2", "c2", "!r 1.0 !r");
        c.writes("c2", "=sum(#)");
        Check.same("removeRow of nothing", c.sheet.removeRow(1, 3), 0);
        c.put("f0", "7");
        Check.same("removeColumn", c.sheet.removeColumn(2, 0), 2);
        Check.same("columns", c.sheet.columns(), 5);
        c.holds("e0", "7.0");
        c.holds("a2", "!r");
        Check.same("kept", c.sheet.kept(1), 2);
        c.throwingSame("no row", IndexOutOfBoundsException.class, () -> c.sheet.removeRow(0, 4));
        c.throwingSame("no row", IndexOutOfBoundsException.class, () -> c.sheet.removeRow(0, -1));
        c.throwingSame("no hand", IllegalArgumentException.class, () -> c.sheet.removeRow(7, 4));
        c.throwingSame("no column", IndexOutOfBoundsException.class, () -> c.sheet.removeColumn(0, 5));
        c.throwingSame("no column", IndexOutOfBoundsException.class, () -> c.sheet.removeColumn(0, -1));
        c.throwingSame("no hand", IllegalArgumentException.class, () -> c.sheet.removeColumn(-1, 5));
    }

    private static void removingAll() {
        Check c = new Check();
        c.put("f5", "last");
        for (int i = 0; i < 5; i++) {
            Check.same("removeRow", c.sheet.removeRow(0, 0), 0);
            Check.same("removeColumn", c.sheet.removeColumn(0, 0), 0);
        }
        c.holds("a0", "'last");
        c.throwingSame("the last row", IllegalStateException.class, () -> c.sheet.removeRow(0, 0));
        c.throwingSame("the last column", IllegalStateException.class, () -> c.sheet.removeColumn(0, 0));
        c.throwingSame("no row", IndexOutOfBoundsException.class, () -> c.sheet.removeRow(0, 1));
        c.throwingSame("no column", IndexOutOfBoundsException.class, () -> c.sheet.removeColumn(0, 1));
        c.refuses("a0", "=b0");
        c.refuses("a0", "=a1");
        Check.same("filledShare", c.sheet.filledShare(), 1.0f);
        c.put("a0", "=seq(2)");
        c.holds("a0", "!s");
    }

    private static void sorting() {
        Check c = new Check();
        String[] things = {"=1/0", "", "b", "2", "=A", "-1"};
        for (int i = 0; i < 6; i++) {
            c.put("a" + i, things[i]);
            c.put("b" + i, "" + i);
        }
        c.put("c0", "=a0");
        Check.same("sortRows", c.sheet.sortRows(1, 0, 0, 5), 5);
        c.holds("a0", "b5", "-1.0 5.0/2.0 3.0/'b 2.0/ 1.0/!d 0.0/!n 4.0");
        c.writes("c4", "=a4");
        Check.same("sortRows again", c.sheet.sortRows(1, 0, 0, 5), 0);
        Check.same("kept all the same", c.sheet.kept(1), 2);
        c.holds("a0", "b5", "-1.0 5.0/2.0 3.0/'b 2.0/ 1.0/!d 0.0/!n 4.0");
    }

    private static void sortingMoves() {
        Check c = new Check();
        c.put("a0", "3");
        c.put("a1", "1");
        c.put("a2", "2");
        c.put("b0", "=a1*10");
        c.put("c0", "=sum(a0:a1)");
        c.put("d5", "=a0+a$1*100");
        c.name('A', "=a0");
        c.put("e5", "=A");
        c.sheet.hide(0, true);
        Check.same("sortRows", c.sheet.sortRows(2, 0, 0, 2), 3);
        c.holds("a0", "a2", "1.0/2.0/3.0");
        c.writes("b2", "=a0*10");
        c.holds("b2", "10.0");
        c.writes("c2", "=sum(a2:a0)");
        c.holds("c2", "6.0");
        c.writes("d5", "=a2+(a$0*100)");
        c.holds("e5", "3.0");
        Check.same("the row that was hidden", c.sheet.hide(2, false), true);
        Check.same("another row", c.sheet.hide(0, false), false);
        Check.same("sortRows of some", c.sheet.sortRows(2, 0, 2, 3), 0);
        Check.same("sortRows of one", c.sheet.sortRows(2, 0, 2, 2), 0);
        c.put("f1", "=seq(2)");
        Check.same("sortRows by what is put down", c.sheet.sortRows(0, 5, 0, 2), 3);
        c.holds("a0", "a2", "2.0/3.0/1.0");
        c.writes("f0", "=seq(2)");
    }

    private static void sortingWrongly() {
        Check c = new Check();
        c.put("a0", "3");
        c.throwingSame("hand", IllegalArgumentException.class, () -> c.sheet.sortRows(3, 0, 0, 1));
        c.throwingSame("to ahead of from", IllegalArgumentException.class, () -> c.sheet.sortRows(0, 0, 2, 1));
        c.throwingSame("to far ahead of from", IllegalArgumentException.class, () -> c.sheet.sortRows(0, 9, 8, -9));
        c.throwingSame("wild", IllegalArgumentException.class,
                () -> c.sheet.sortRows(0, 0, Integer.MAX_VALUE, Integer.MIN_VALUE));
        c.throwingSame("column", IndexOutOfBoundsException.class, () -> c.sheet.sortRows(0, 6, 0, 1));
        c.throwingSame("column", IndexOutOfBoundsException.class, () -> c.sheet.sortRows(0, -1, 0, 1));
        c.throwingSame("from", IndexOutOfBoundsException.class, () -> c.sheet.sortRows(0, 0, -1, 1));
        c.throwingSame("to", IndexOutOfBoundsException.class, () -> c.sheet.sortRows(0, 0, 0, 6));
        c.throwingSame("wild", IndexOutOfBoundsException.class,
                () -> c.sheet.sortRows(0, 0, Integer.MIN_VALUE, Integer.MAX_VALUE));
    }

    private static void hiding() {
        Check c = new Check();
        Check.same("hide", c.sheet.hide(0, true), false);
        Check.same("hide again", c.sheet.hide(0, true), true);
        Check.same("show", c.sheet.hide(0, false), true);
        Check.same("show again", c.sheet.hide(0, false), false);
        c.sheet.hide(5, true);
        c.sheet.insertRow(0, 0);
        Check.same("hidden behind insertRow", c.sheet.hide(6, true), true);
        Check.same("a new row is not hidden", c.sheet.hide(0, false), false);
        c.throwingSame("row", IndexOutOfBoundsException.class, () -> c.sheet.hide(7, true));
        c.throwingSame("row", IndexOutOfBoundsException.class, () -> c.sheet.hide(-1, true));
        Check.same("kept", c.sheet.kept(0), 1);
    }
}
