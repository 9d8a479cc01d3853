import java.util.NoSuchElementException;

/** Each sentence of "Hands" and "Exceptions", and of promises 7 to 16, that names a boundary. */
public final class HandsBoundsTest {
    private static final int[] WILD = {-1, 11, Integer.MIN_VALUE, Integer.MAX_VALUE};

    public static void main(String[] args) {
        placesOfANewRow();
        placesOfANewColumn();
        roomForARow();
        anEmptyRow();
        placesOfAGoneRow();
        placesOfAGoneColumn();
        theLastOne();
        howManyHadAContent();
        sortedAsBySort();
        errorsComeLast();
        howManyMoved();
        sortedOrder();
        placesOfSortedRows();
        whetherItWasHidden();
        placesOfHiddenRows();
        theLastEight();
        eachEditIsKept();
        editsThatLeaveAll();
        notKept();
        ofEachHandAlone();
        whatUndoThrowsFirst();
        theContentComesBack();
        ifTheCellIsThere();
        notSomethingAlike();
        emptyCells();
        whatWasFilled();
        whatWasPutInGoes();
        ifItIsThere();
        ifItsCellsAreEmpty();
        ifItIsNotTheLastOne();
        whatWasRemovedComesBack();
        asFarAsColumnsAreThere();
        meantAgain();
        atThePlaceThatItHad();
        ifThereIsRoom();
        theOrderAhead();
        atTheSamePlaces();
        changesNothing();
        Check.end();
    }

    private static void placesOfANewRow() {
        Check.says("Throws IndexOutOfBoundsException if there is no such place, and it is not just behind the last one");
        Check c = new Check();
        c.put("a0", "x");
        c.put("a5", "y");
        Check.same("just behind the last one", c.sheet.insertRow(0, 6), 7);
        Check.same("the first place", c.sheet.insertRow(0, 0), 8);
        Check.same("the last place", c.sheet.insertRow(0, 7), 9);
        c.holds("a0", "a8", "/'x/////'y//");
        c.throwingSame("one farther", IndexOutOfBoundsException.class, () -> c.sheet.insertRow(0, 10));
        for (int place : WILD) {
            c.throwingSame("at " + place, IndexOutOfBoundsException.class, () -> c.sheet.insertRow(0, place));
            c.throwingSame("no hand", IllegalArgumentException.class, () -> c.sheet.insertRow(3, place));
        }
        Check.same("rows", c.sheet.rows(), 9);
        Check.same("columns", c.sheet.columns(), 6);
    }

    private static void placesOfANewColumn() {
        Check.says("Throws IndexOutOfBoundsException if there is no such place, and it is not just behind the last one");
        Check c = new Check();
        c.put("a0", "x");
        c.put("f0", "y");
        c.throwingSame("one farther", IndexOutOfBoundsException.class, () -> c.sheet.insertColumn(0, 7));
        Check.same("just behind the last one", c.sheet.insertColumn(0, 6), 7);
        Check.same("the first place", c.sheet.insertColumn(0, 0), 8);
        c.holds("a0", "h0", " 'x     'y ");
        for (int place : WILD) {
            c.throwingSame("at " + place, IndexOutOfBoundsException.class, () -> c.sheet.insertColumn(0, place));
            c.throwingSame("no hand", IllegalArgumentException.class, () -> c.sheet.insertColumn(-1, place));
        }
        c.throwingSame("one farther than 8", IndexOutOfBoundsException.class, () -> c.sheet.insertColumn(0, 9));
        Check.same("columns", c.sheet.columns(), 8);
        Check.same("rows", c.sheet.rows(), 6);
    }

    private static void roomForARow() {
        Check.says("Throws IllegalStateException if there are 10 rows");
        Check c = new Check().grow();
        for (int place : new int[] {0, 5, 9, 10}) {
            c.throwingSame("insertRow", IllegalStateException.class, () -> c.sheet.insertRow(0, place));
        }
        c.throwingSame("no place, too", IndexOutOfBoundsException.class, () -> c.sheet.insertRow(0, 11));
        c.throwingSame("no hand, too", IllegalArgumentException.class, () -> c.sheet.insertRow(3, 0));
        Check.says("Throws IllegalStateException if there are 8 columns");
        for (int place : new int[] {0, 4, 7, 8}) {
            c.throwingSame("insertColumn", IllegalStateException.class, () -> c.sheet.insertColumn(0, place));
        }
        c.throwingSame("no place, too", IndexOutOfBoundsException.class, () -> c.sheet.insertColumn(0, 9));
        c.throwingSame("no hand, too", IllegalArgumentException.class, () -> c.sheet.insertColumn(3, 0));
        Check.same("kept", c.sheet.kept(0), 0);
    }

    private static void anEmptyRow() {
        Check.says("Puts an empty row in.");
        Check c = new Check();
        for (int i = 0; i < 6; i++) {
            c.put("" + (char) ('a' + i) + "5", "x");
        }
        c.sheet.hide(5, true);
        c.sheet.removeRow(0, 5);
        Check.same("insertRow", c.sheet.insertRow(0, 5), 6);
        for (int column = 0; column < 6; column++) {
            Check.same("contentAt", c.sheet.contentAt(5, column), 'b');
        }
        Check.same("not hidden", c.sheet.hide(5, false), false);
        Check.says("Puts an empty column in.");
        for (int i = 0; i < 6; i++) {
            c.put("f" + i, "x");
        }
        c.sheet.removeColumn(0, 5);
        Check.same("insertColumn", c.sheet.insertColumn(0, 5), 6);
        for (int row = 0; row < 6; row++) {
            Check.same("contentAt", c.sheet.contentAt(row, 5), 'b');
        }
    }

    private static void placesOfAGoneRow() {
        Check.says("Throws IndexOutOfBoundsException if there is no such row");
        Check c = new Check();
        c.put("a0", "x");
        c.put("a4", "y");
        c.throwingSame("removeRow", IndexOutOfBoundsException.class, () -> c.sheet.removeRow(0, 6));
        for (int place : WILD) {
            c.throwingSame("of " + place, IndexOutOfBoundsException.class, () -> c.sheet.removeRow(0, place));
            c.throwingSame("no hand", IllegalArgumentException.class, () -> c.sheet.removeRow(3, place));
        }
        Check.same("the last place", c.sheet.removeRow(0, 5), 0);
        c.throwingSame("no more", IndexOutOfBoundsException.class, () -> c.sheet.removeRow(0, 5));
        Check.same("the last place", c.sheet.removeRow(0, 4), 1);
        Check.same("the first place", c.sheet.removeRow(0, 0), 1);
        Check.same("rows", c.sheet.rows(), 3);
    }

    private static void placesOfAGoneColumn() {
        Check.says("Throws IndexOutOfBoundsException if there is no such column");
        Check c = new Check();
        c.put("a0", "x");
        c.put("e0", "y");
        c.throwingSame("removeColumn", IndexOutOfBoundsException.class, () -> c.sheet.removeColumn(0, 6));
        for (int place : WILD) {
            c.throwingSame("of " + place, IndexOutOfBoundsException.class, () -> c.sheet.removeColumn(0, place));
            c.throwingSame("no hand", IllegalArgumentException.class, () -> c.sheet.removeColumn(-1, place));
        }
        Check.same("the last place", c.sheet.removeColumn(0, 5), 0);
        Check.same("the last place", c.sheet.removeColumn(0, 4), 1);
        Check.same("the first place", c.sheet.removeColumn(0, 0), 1);
        Check.same("columns", c.sheet.columns(), 3);
    }

    private static void theLastOne() {
        Check.says("Throws IllegalStateException if it is the last one");
        Check c = new Check();
        for (int count = 5; count >= 1; count--) {
            c.sheet.removeRow(0, 0);
            Check.same("rows", c.sheet.rows(), count);
        }
        c.throwingSame("removeRow", IllegalStateException.class, () -> c.sheet.removeRow(0, 0));
        c.throwingSame("no such row", IndexOutOfBoundsException.class, () -> c.sheet.removeRow(0, 1));
        c.throwingSame("no such hand", IllegalArgumentException.class, () -> c.sheet.removeRow(3, 0));
        for (int count = 5; count >= 1; count--) {
            c.sheet.removeColumn(1, count);
            Check.same("columns", c.sheet.columns(), count);
        }
        c.throwingSame("removeColumn", IllegalStateException.class, () -> c.sheet.removeColumn(0, 0));
        c.throwingSame("no such column", IndexOutOfBoundsException.class, () -> c.sheet.removeColumn(0, 1));
        c.throwingSame("no such hand", IllegalArgumentException.class, () -> c.sheet.removeColumn(3, 0));
        Check.same("the one cell", c.put("a0", "1"), 'n');
        c.sheet.insertRow(0, 1);
        Check.same("not the last one any more", c.sheet.removeRow(0, 0), 1);
    }

    private static void howManyHadAContent() {
        Check.says("Returns how many of its cells had a content.");
        Check c = new Check();
        Check.same("none", c.sheet.removeRow(0, 5), 0);
        c.put("a0", "=seq(1,6)");
        Check.same("what is put down is none", c.sheet.removeRow(0, 0), 1);
        for (int i = 0; i < 6; i++) {
            c.put("" + (char) ('a' + i) + "1", i == 1 ? "=f0" : i == 2 ? "0" : "x");
            if (i < 4) {
                c.put("c" + i, "=1");
            }
        }
        Check.same("all of them", c.sheet.removeRow(0, 1), 6);
        Check.same("all of them", c.sheet.removeColumn(0, 2), 3);
        Check.same("none", c.sheet.removeColumn(0, 2), 0);
    }

    private static void column(Check c, String... contents) {
        for (int i = 0; i < contents.length; i++) {
            c.put("a" + i, contents[i]);
            c.put("b" + i, "" + i);
        }
    }

    private static void sortedAsBySort() {
        Check.says("Sorts rows by the values in a column, as by \"sort\"");
        Check c = new Check();
        column(c, "b", "", "2", "=\"a\"", "=-1", "2");
        Check.same("sortRows", c.sheet.sortRows(0, 0, 0, 5), 5);
        c.holds("b0", "b5", "4.0/2.0/5.0/3.0/0.0/1.0");
        Check d = new Check();
        column(d, "", "=\"\"", "=f5", "0", "-0", "x");
        d.sheet.sortRows(0, 0, 0, 5);
        d.holds("b0", "b5", "3.0/4.0/1.0/5.0/0.0/2.0");
        Check e = new Check();
        column(e, "x", "", "x", "", "7", "7");
        Check.same("sortRows", e.sheet.sortRows(0, 0, 0, 5), 6);
        e.holds("b0", "b5", "4.0/5.0/0.0/2.0/1.0/3.0");
        Check.same("sortRows of equal ones", e.sheet.sortRows(0, 0, 0, 5), 0);
    }

    private static void errorsComeLast() {
        Check.says("where errors come last, all as equal");
        Check c = new Check();
        column(c, "=1/0", "", "=A", "x", "=-\"x\"", "1");
        Check.same("sortRows", c.sheet.sortRows(0, 0, 0, 5), 6);
        c.holds("b0", "b5", "5.0/3.0/1.0/0.0/2.0/4.0");
        Check d = new Check();
        column(d, "=A", "=1/0", "=A");
        Check.same("equal ones stay", d.sheet.sortRows(0, 0, 0, 2), 0);
    }

    private static void howManyMoved() {
        Check.says("Returns how many rows get another place.");
        Check c = new Check();
        column(c, "1", "2", "3", "4", "5", "6");
        Check.same("none", c.sheet.sortRows(0, 0, 0, 5), 0);
        c.put("a0", "2.5");
        Check.same("two", c.sheet.sortRows(0, 0, 0, 5), 2);
        c.put("a0", "9");
        Check.same("all", c.sheet.sortRows(0, 0, 0, 5), 6);
        c.put("a5", "0");
        Check.same("of some", c.sheet.sortRows(0, 0, 3, 5), 3);
        c.put("a0", "");
        c.put("a1", "");
        Check.same("blanks stay", c.sheet.sortRows(0, 0, 0, 1), 0);
    }

    private static void sortedOrder() {
        Check.says("Sorts rows by the values in a column");
        Check c = new Check();
        column(c, "3", "1", "2", "0");
        c.sheet.sortRows(0, 0, 1, 2);
        c.holds("a0", "b3", "3.0 0.0/1.0 1.0/2.0 2.0/0.0 3.0");
        c.sheet.sortRows(0, 0, 0, 2);
        c.holds("a0", "b3", "1.0 1.0/2.0 2.0/3.0 0.0/0.0 3.0");
        c.put("f0", "=seq(3)*-1");
        Check.same("by what is put down", c.sheet.sortRows(0, 5, 0, 2), 2);
        c.holds("a0", "b2", "3.0 0.0/2.0 2.0/1.0 1.0");
        c.writes("f2", "=seq(3)*-1");
    }

    private static void placesOfSortedRows() {
        Check.says("Throws IllegalArgumentException if there is no such hand, or the last row is ahead of the first one");
        Check c = new Check();
        column(c, "3", "1");
        c.throwingSame("one ahead", IllegalArgumentException.class, () -> c.sheet.sortRows(0, 0, 1, 0));
        c.throwingSame("ahead, and no rows", IllegalArgumentException.class, () -> c.sheet.sortRows(0, 0, 9, 8));
        c.throwingSame("ahead, and no column", IllegalArgumentException.class, () -> c.sheet.sortRows(0, 6, 0, -1));
        c.throwingSame("wild", IllegalArgumentException.class,
                () -> c.sheet.sortRows(0, 0, Integer.MAX_VALUE, Integer.MIN_VALUE));
        c.throwingSame("no hand", IllegalArgumentException.class, () -> c.sheet.sortRows(3, 0, 0, 1));
        c.throwingSame("no hand, and no rows", IllegalArgumentException.class, () -> c.sheet.sortRows(-1, 9, 9, 9));
        Check.says("Throws IndexOutOfBoundsException if there is no such row or column");
        c.throwingSame("to", IndexOutOfBoundsException.class, () -> c.sheet.sortRows(0, 0, 0, 6));
        c.throwingSame("from", IndexOutOfBoundsException.class, () -> c.sheet.sortRows(0, 0, -1, 0));
        c.throwingSame("both", IndexOutOfBoundsException.class, () -> c.sheet.sortRows(0, 0, 6, 6));
        c.throwingSame("column", IndexOutOfBoundsException.class, () -> c.sheet.sortRows(0, 6, 0, 1));
        c.throwingSame("column", IndexOutOfBoundsException.class, () -> c.sheet.sortRows(0, -1, 0, 1));
        c.throwingSame("wild", IndexOutOfBoundsException.class,
                () -> c.sheet.sortRows(0, 0, Integer.MIN_VALUE, Integer.MAX_VALUE));
        Check.same("one row", c.sheet.sortRows(0, 0, 0, 0), 0);
        Check.same("the last row", c.sheet.sortRows(0, 5, 5, 5), 0);
        Check.same("all rows", c.sheet.sortRows(0, 0, 0, 5), 2);
    }

    private static void whetherItWasHidden() {
        Check.says("Hides a row, or not. Returns whether it was hidden.");
        Check c = new Check();
        Check.same("not yet", c.sheet.hide(0, true), false);
        Check.same("hidden", c.sheet.hide(0, true), true);
        Check.same("hidden", c.sheet.hide(0, false), true);
        Check.same("not any more", c.sheet.hide(0, false), false);
        c.sheet.hide(2, true);
        Check.same("the next row", c.sheet.hide(3, false), false);
        c.sheet.insertRow(0, 2);
        Check.same("the new row", c.sheet.hide(2, false), false);
        Check.same("it goes with the row", c.sheet.hide(3, true), true);
        c.put("a3", "9");
        c.put("a4", "8");
        c.sheet.sortRows(0, 0, 3, 4);
        Check.same("the other row", c.sheet.hide(3, false), false);
        Check.same("it goes with the row", c.sheet.hide(4, false), true);
        c.holds("a4", "9.0");
    }

    private static void placesOfHiddenRows() {
        Check.says("Throws IndexOutOfBoundsException if there is no such row");
        Check c = new Check();
        for (int place : WILD) {
            c.throwingSame("hide " + place, IndexOutOfBoundsException.class, () -> c.sheet.hide(place, true));
        }
        c.throwingSame("hide 6", IndexOutOfBoundsException.class, () -> c.sheet.hide(6, false));
        Check.same("the last row", c.sheet.hide(5, true), false);
        c.sheet.removeRow(0, 0);
        c.throwingSame("hide 5", IndexOutOfBoundsException.class, () -> c.sheet.hide(5, true));
    }

    private static void theLastEight() {
        Check.says("Each edit of a hand is kept, the last 8 of them");
        Check c = new Check();
        for (int i = 1; i <= 8; i++) {
            c.put("a0", "" + i);
            Check.same("kept", c.sheet.kept(0), i);
        }
        for (int i = 9; i <= 12; i++) {
            c.put("a0", "" + i);
            Check.same("kept", c.sheet.kept(0), 8);
        }
        for (int i = 7; i >= 0; i--) {
            Check.same("undo", c.sheet.undo(0), i);
            c.holds("a0", (i + 4) + ".0");
            Check.same("kept", c.sheet.kept(0), i);
        }
        c.throwingSame("a ninth", NoSuchElementException.class, () -> c.sheet.undo(0));
        c.holds("a0", "4.0");
    }

    private static void eachEditIsKept() {
        Check.says("Each edit of a hand is kept");
        Check c = new Check();
        c.put(1, "a0", "5");
        Check.same("enter", c.sheet.kept(1), 1);
        c.sheet.fill(1, 0, 0, 1, 0);
        Check.same("fill", c.sheet.kept(1), 2);
        c.sheet.insertRow(1, 0);
        Check.same("insertRow", c.sheet.kept(1), 3);
        c.sheet.insertColumn(1, 0);
        Check.same("insertColumn", c.sheet.kept(1), 4);
        c.sheet.removeRow(1, 0);
        Check.same("removeRow", c.sheet.kept(1), 5);
        c.sheet.removeColumn(1, 0);
        Check.same("removeColumn", c.sheet.kept(1), 6);
        c.sheet.sortRows(1, 0, 0, 1);
        Check.same("sortRows", c.sheet.kept(1), 7);
        for (int i = 6; i >= 0; i--) {
            Check.same("undo", c.sheet.undo(1), i);
        }
        Check.same("contentAt", c.sheet.contentAt(0, 0), 'b');
        Check.same("rows", c.sheet.rows(), 6);
        Check.same("columns", c.sheet.columns(), 6);
    }

    private static void editsThatLeaveAll() {
        Check.says("also one that leaves all as it was");
        Check c = new Check();
        c.put("a0", "");
        Check.same("nothing into nothing", c.sheet.kept(0), 1);
        c.put("a0", "5");
        c.put("a0", "5");
        Check.same("the same number", c.sheet.kept(0), 3);
        c.fill("a0", "a0");
        Check.same("filled onto itself", c.sheet.kept(0), 4);
        c.sheet.sortRows(0, 0, 0, 5);
        Check.same("sorted already", c.sheet.kept(0), 5);
        c.sheet.sortRows(0, 0, 3, 3);
        Check.same("one row", c.sheet.kept(0), 6);
        for (int i = 5; i >= 0; i--) {
            Check.same("undo", c.sheet.undo(0), i);
        }
        Check.same("contentAt", c.sheet.contentAt(0, 0), 'b');
    }

    private static void notKept() {
        Check.says("Each edit of a hand");
        Check c = new Check();
        c.name('A', "=1");
        c.sheet.hide(0, true);
        c.type("xy");
        c.sheet.erase();
        for (int hand = 0; hand < 3; hand++) {
            Check.same("kept", c.sheet.kept(hand), 0);
        }
        c.put("a0", "5");
        c.sheet.undo(0);
        Check.same("undo is none", c.sheet.kept(0), 0);
        c.type("=");
        Check.refused("enter", () -> c.sheet.enter(0, 0, 0));
        Check.same("a refused one", c.sheet.kept(0), 0);
    }

    private static void ofEachHandAlone() {
        Check.says("and each hand can undo what it did alone");
        Check c = new Check();
        c.put(0, "a0", "1");
        c.put(1, "b0", "2");
        c.put(2, "c0", "3");
        c.put(1, "b1", "4");
        Check.same("kept", c.sheet.kept(0), 1);
        Check.same("kept", c.sheet.kept(1), 2);
        Check.same("kept", c.sheet.kept(2), 1);
        Check.same("undo", c.sheet.undo(0), 0);
        c.holds("a0", "c1", " 2.0 3.0/ 4.0 ");
        Check.same("undo", c.sheet.undo(1), 1);
        c.holds("a0", "c1", " 2.0 3.0/  ");
        Check.none("undo", () -> c.sheet.undo(0));
        Check.same("undo", c.sheet.undo(2), 0);
        Check.same("undo", c.sheet.undo(1), 0);
        Check.same("filledShare", c.sheet.filledShare(), 0.0f);
    }

    private static void whatUndoThrowsFirst() {
        Check.says("Throws NoSuchElementException if none is kept");
        Check c = new Check();
        c.throwingSame("undo", NoSuchElementException.class, () -> c.sheet.undo(0));
        c.throwingSame("undo of no hand", IllegalArgumentException.class, () -> c.sheet.undo(3));
        c.throwingSame("undo of no hand", IllegalArgumentException.class, () -> c.sheet.undo(-1));
        Check.illegal("kept of no hand", () -> c.sheet.kept(3));
        Check.illegal("kept of no hand", () -> c.sheet.kept(-1));
        Check.says("Throws UnsupportedOperationException if it can not be undone now");
        c.put(0, "a0", "1");
        c.put(1, "a0", "2");
        c.throwingSame("undo", UnsupportedOperationException.class, () -> c.sheet.undo(0));
        Check.same("still kept", c.sheet.kept(0), 1);
        c.sheet.undo(1);
        Check.same("now it can", c.sheet.undo(0), 0);
    }

    private static void theContentComesBack() {
        Check.says("the content of the cell ahead of it comes back");
        Check c = new Check();
        String[] contents = {"5", "x", "=1+1", ""};
        for (String content : contents) {
            c.put(0, "a0", content);
            char kind = c.sheet.contentAt(0, 0);
            String value = c.value("a0");
            for (String other : contents) {
                c.put(1, "a0", other);
                c.sheet.undo(1);
                Check.same("contentAt", c.sheet.contentAt(0, 0), kind);
                c.holds("a0", value);
            }
        }
        // What came back is the content that was there, not something alike.
        c.put(0, "a0", "7");
        c.put(1, "a0", "8");
        c.sheet.undo(1);
        Check.same("undo", c.sheet.undo(0), 4);
    }

    private static void ifTheCellIsThere() {
        Check.says("if the row and the column are there");
        Check c = new Check();
        c.put(0, "c3", "5");
        c.sheet.removeRow(1, 3);
        c.throwingSame("without the row", UnsupportedOperationException.class, () -> c.sheet.undo(0));
        c.sheet.removeColumn(2, 2);
        c.throwingSame("without both", UnsupportedOperationException.class, () -> c.sheet.undo(0));
        c.sheet.undo(1);
        c.throwingSame("without the column", UnsupportedOperationException.class, () -> c.sheet.undo(0));
        Check.same("kept", c.sheet.kept(0), 1);
        Check d = new Check();
        d.put(0, "c3", "5");
        d.sheet.removeRow(1, 3);
        d.sheet.insertRow(2, 3);
        d.throwingSame("another row", UnsupportedOperationException.class, () -> d.sheet.undo(0));
        d.sheet.undo(1);
        d.holds("c3", "5.0");
        Check.same("with both", d.sheet.undo(0), 0);
        Check.same("contentAt", d.sheet.contentAt(3, 2), 'b');
        d.put(0, "c3", "6");
        d.sheet.removeRow(2, 0);
        d.sheet.removeColumn(2, 0);
        Check.same("at another place", d.sheet.undo(0), 0);
        d.holds("b2", "");
        for (int way = 0; way < 2; way++) {
            Check e = new Check();
            e.put(0, "c3", "5");
            e.put(0, "c3", "");
            int removed = way == 0 ? e.sheet.removeRow(1, 3) : e.sheet.removeColumn(1, 2);
            Check.same("of empty cells", removed, 0);
            e.throwingSame("an empty cell that is gone", UnsupportedOperationException.class, () -> e.sheet.undo(0));
            e.sheet.undo(1);
            Check.same("an empty cell that is there", e.sheet.undo(0), 1);
            e.holds("c3", "5.0");
        }
    }

    private static void notSomethingAlike() {
        Check.says("and the cell still has what was entered or filled then, and not something alike that was put there later");
        for (String content : new String[] {"5", "x", "=1"}) {
            Check c = new Check();
            c.put(0, "a0", content);
            c.put(1, "a0", content);
            c.throwingSame("entered later", UnsupportedOperationException.class, () -> c.sheet.undo(0));
            c.sheet.undo(1);
            c.sheet.fill(1, 0, 0, 0, 0);
            c.throwingSame("filled later", UnsupportedOperationException.class, () -> c.sheet.undo(0));
            c.sheet.undo(1);
            c.put(1, "a0", "9");
            c.put(2, "a0", content);
            c.throwingSame("entered last", UnsupportedOperationException.class, () -> c.sheet.undo(0));
            c.throwingSame("entered between", UnsupportedOperationException.class, () -> c.sheet.undo(1));
            c.sheet.undo(2);
            c.sheet.undo(1);
            Check.same("what was entered then", c.sheet.undo(0), 0);
        }
    }

    private static void emptyCells() {
        Check.says("but an empty cell is as good as another one");
        Check c = new Check();
        c.put(0, "a0", "5");
        c.put(0, "a0", "");
        c.put(1, "a0", "");
        Check.same("emptied again", c.sheet.undo(0), 1);
        c.holds("a0", "5.0");
        c.throwingSame("not empty", UnsupportedOperationException.class, () -> c.sheet.undo(1));
        c.sheet.undo(0);
        Check.same("empty", c.sheet.undo(1), 0);
        c.put(0, "b0", "");
        c.put(1, "b0", "7");
        c.throwingSame("not empty", UnsupportedOperationException.class, () -> c.sheet.undo(0));
        c.put(2, "b0", "");
        Check.same("empty by another hand", c.sheet.undo(0), 0);
        c.put(0, "c0", "");
        c.put(1, "b0", "=seq(1,2)");
        c.holds("c0", "2.0");
        Check.same("empty with a value", c.sheet.undo(0), 0);
    }

    private static void whatWasFilled() {
        Check.says("what was entered or filled");
        Check c = new Check();
        c.put(0, "a0", "5");
        c.put(0, "b0", "x");
        c.sheet.fill(1, 0, 0, 0, 1);
        c.holds("b0", "5.0");
        c.throwingSame("filled over", UnsupportedOperationException.class, () -> c.sheet.undo(0));
        Check.same("undo", c.sheet.undo(1), 0);
        c.holds("b0", "'x");
        c.sheet.fill(1, 0, 0, 5, 5);
        c.put(2, "a0", "9");
        Check.same("undo", c.sheet.undo(1), 0);
        c.holds("f5", "");
        c.holds("a0", "9.0");
    }

    private static void whatWasPutInGoes() {
        Check.says("a row or column that was put in goes");
        Check c = new Check();
        c.put(0, "a2", "5");
        c.sheet.insertRow(1, 2);
        c.sheet.insertColumn(1, 0);
        c.holds("b3", "5.0");
        c.put(0, "f5", "=b2+b3");
        Check.same("undo of the column", c.sheet.undo(1), 1);
        Check.same("columns", c.sheet.columns(), 6);
        c.holds("e5", "5.0");
        Check.same("undo of the row", c.sheet.undo(1), 0);
        Check.same("rows", c.sheet.rows(), 6);
        c.holds("a2", "5.0");
        c.holds("e4", "!r");
        c.sheet.insertRow(1, 6);
        c.sheet.insertRow(2, 0);
        Check.same("wherever it is", c.sheet.undo(1), 0);
        c.holds("a3", "5.0");
        Check.same("rows", c.sheet.rows(), 7);
    }

    private static void ifItIsThere() {
        Check.says("if it is there");
        Check c = new Check();
        c.sheet.insertRow(1, 2);
        c.sheet.removeRow(0, 2);
        c.throwingSame("undo", UnsupportedOperationException.class, () -> c.sheet.undo(1));
        c.sheet.insertRow(2, 2);
        c.throwingSame("another one", UnsupportedOperationException.class, () -> c.sheet.undo(1));
        c.sheet.undo(0);
        Check.same("it is there again", c.sheet.undo(1), 0);
        Check.same("rows", c.sheet.rows(), 7);
        c.sheet.insertColumn(1, 2);
        c.sheet.removeColumn(0, 2);
        c.throwingSame("undo", UnsupportedOperationException.class, () -> c.sheet.undo(1));
        c.sheet.undo(0);
        Check.same("it is there again", c.sheet.undo(1), 0);
        Check.same("columns", c.sheet.columns(), 6);
    }

    private static void ifItsCellsAreEmpty() {
        Check.says("all its cells are empty");
        for (String content : new String[] {"0", "x", "=f5"}) {
            Check c = new Check();
            c.sheet.insertRow(1, 6);
            c.sheet.insertColumn(2, 6);
            c.put("g6", content);
            c.throwingSame("the row", UnsupportedOperationException.class, () -> c.sheet.undo(1));
            c.throwingSame("the column", UnsupportedOperationException.class, () -> c.sheet.undo(2));
            c.put("g6", "");
            c.put("f5", "=seq(2,2)");
            c.holds("g6", "4.0");
            Check.same("what is put down is no content", c.sheet.undo(1), 0);
            Check.same("what is put down is no content", c.sheet.undo(2), 0);
            c.holds("f5", "!s");
        }
    }

    private static void ifItIsNotTheLastOne() {
        Check.says("and it is not the last one");
        Check c = new Check();
        c.sheet.insertRow(1, 0);
        c.sheet.insertColumn(1, 0);
        for (int i = 0; i < 6; i++) {
            c.sheet.removeRow(0, 1);
            c.sheet.removeColumn(0, 1);
        }
        c.throwingSame("the last column", UnsupportedOperationException.class, () -> c.sheet.undo(1));
        c.sheet.insertColumn(2, 1);
        Check.same("not the last column", c.sheet.undo(1), 1);
        c.throwingSame("the last row", UnsupportedOperationException.class, () -> c.sheet.undo(1));
        c.sheet.insertRow(2, 0);
        Check.same("not the last row", c.sheet.undo(1), 0);
        Check.same("rows", c.sheet.rows(), 1);
        Check.same("columns", c.sheet.columns(), 1);
    }

    private static void whatWasRemovedComesBack() {
        Check.says("one that was removed comes back with its contents");
        Check c = new Check();
        c.put("a2", "5");
        c.put("b2", "x");
        c.put("c2", "=a2*2");
        c.put("f2", "=c2+a0");
        c.put("a0", "1");
        c.sheet.removeRow(1, 2);
        c.holds("a2", "f2", "     ");
        Check.same("undo", c.sheet.undo(1), 0);
        c.holds("a2", "f2", "5.0 'x 10.0   11.0");
        c.writes("f2", "=c2+a0");
        c.sheet.removeColumn(1, 0);
        c.holds("b2", "!r");
        Check.same("undo", c.sheet.undo(1), 0);
        c.holds("a0", "c2", "1.0  /  /5.0 'x 10.0");
        Check.same("rows", c.sheet.rows(), 6);
        Check.same("columns", c.sheet.columns(), 6);
    }

    private static void asFarAsColumnsAreThere() {
        Check.says("as far as their columns or rows are there");
        Check c = new Check();
        c.put("a2", "1");
        c.put("b2", "2");
        c.put("c2", "3");
        c.sheet.removeRow(1, 2);
        c.sheet.removeColumn(2, 1);
        c.sheet.insertColumn(2, 0);
        Check.same("undo of the row", c.sheet.undo(1), 0);
        c.holds("a2", "d2", " 1.0 3.0 ");
        c.put("a0", "8");
        c.put("b0", "9");
        c.sheet.removeColumn(1, 1);
        c.sheet.removeRow(2, 0);
        Check.same("undo of the column", c.sheet.undo(1), 0);
        c.holds("a0", "c1", "  / 1.0 3.0");
    }

    private static void meantAgain() {
        Check.says("and is meant again by what meant it");
        Check c = new Check();
        c.put("b2", "5");
        c.put("a0", "=b2+$b$2");
        c.put("a1", "=sum(b0:b2)");
        c.name('A', "=b2");
        c.put("a3", "=A");
        c.sheet.removeRow(1, 2);
        c.holds("a0", "a2", "!r/!r/!r");
        c.sheet.undo(1);
        c.holds("a0", "a3", "10.0/5.0//5.0");
        c.sheet.removeColumn(1, 1);
        c.holds("a0", "a3", "!r/!r//!r");
        c.sheet.undo(1);
        c.holds("a0", "a3", "10.0/5.0//5.0");
        c.writes("a0", "=b2+$b$2");
    }

    private static void atThePlaceThatItHad() {
        Check.says("at the place that it had, or at the end if there are fewer");
        Check c = new Check();
        for (int i = 0; i < 6; i++) {
            c.put("a" + i, "" + i);
        }
        c.sheet.removeRow(1, 2);
        c.sheet.insertRow(2, 0);
        c.sheet.undo(1);
        c.holds("a0", "a6", "/0.0/2.0/1.0/3.0/4.0/5.0");
        c.sheet.removeRow(1, 6);
        c.sheet.removeRow(2, 0);
        c.sheet.undo(1);
        c.holds("a0", "a5", "0.0/2.0/1.0/3.0/4.0/5.0");
        c.sheet.removeRow(1, 5);
        c.sheet.removeRow(2, 0);
        c.sheet.removeRow(2, 0);
        Check.same("fewer", c.sheet.undo(1), 0);
        c.holds("a0", "a3", "1.0/3.0/4.0/5.0");
        c.sheet.removeRow(1, 0);
        c.sheet.undo(1);
        c.holds("a0", "a3", "1.0/3.0/4.0/5.0");
        Check d = new Check();
        d.put("f0", "x");
        d.sheet.removeColumn(1, 5);
        d.sheet.removeColumn(2, 0);
        Check.same("fewer", d.sheet.undo(1), 0);
        d.holds("e0", "'x");
        Check.same("columns", d.sheet.columns(), 5);
    }

    private static void ifThereIsRoom() {
        Check.says("if there is room");
        Check c = new Check();
        c.put("a0", "x");
        c.sheet.removeRow(1, 0);
        for (int i = 0; i < 5; i++) {
            c.sheet.insertRow(0, 0);
        }
        c.throwingSame("ten rows", UnsupportedOperationException.class, () -> c.sheet.undo(1));
        c.sheet.undo(0);
        Check.same("nine rows", c.sheet.undo(1), 0);
        Check.same("rows", c.sheet.rows(), 10);
        c.holds("a0", "'x");
        c.sheet.removeColumn(1, 0);
        for (int i = 0; i < 3; i++) {
            c.sheet.insertColumn(2, 0);
        }
        c.throwingSame("eight columns", UnsupportedOperationException.class, () -> c.sheet.undo(1));
        c.sheet.undo(2);
        Check.same("seven columns", c.sheet.undo(1), 0);
        Check.same("columns", c.sheet.columns(), 8);
        c.holds("a0", "'x");
    }

    private static void theOrderAhead() {
        Check.says("rows that were sorted get the order ahead of it");
        Check c = new Check();
        column(c, "3", "1", "2", "0");
        c.sheet.sortRows(1, 0, 0, 3);
        c.holds("b0", "b3", "3.0/1.0/2.0/0.0");
        c.put("a0", "7");
        c.put("f3", "x");
        Check.same("undo", c.sheet.undo(1), 0);
        c.holds("a0", "b3", "3.0 0.0/1.0 1.0/2.0 2.0/7.0 3.0");
        c.holds("f0", "'x");
    }

    private static void atTheSamePlaces() {
        Check.says("if they are at the same places in the order of behind it");
        Check c = new Check();
        column(c, "3", "1", "2", "0");
        c.sheet.sortRows(1, 0, 1, 3);
        c.holds("b0", "b3", "0.0/3.0/1.0/2.0");
        c.sheet.insertRow(2, 0);
        c.throwingSame("a place farther", UnsupportedOperationException.class, () -> c.sheet.undo(1));
        c.sheet.undo(2);
        c.sheet.removeRow(2, 0);
        c.throwingSame("a place nearer", UnsupportedOperationException.class, () -> c.sheet.undo(1));
        c.sheet.undo(2);
        c.sheet.removeRow(2, 3);
        c.throwingSame("one is gone", UnsupportedOperationException.class, () -> c.sheet.undo(1));
        c.sheet.undo(2);
        c.sheet.insertRow(2, 3);
        c.throwingSame("one is between", UnsupportedOperationException.class, () -> c.sheet.undo(1));
        c.sheet.undo(2);
        c.put(2, "c1", "9");
        c.put(2, "c2", "8");
        c.sheet.sortRows(2, 2, 1, 2);
        c.throwingSame("another order", UnsupportedOperationException.class, () -> c.sheet.undo(1));
        c.sheet.undo(2);
        c.sheet.insertRow(2, 4);
        c.sheet.insertColumn(2, 0);
        Check.same("others may move", c.sheet.undo(1), 0);
        c.holds("c0", "c3", "0.0/1.0/2.0/3.0");
        c.sheet.sortRows(1, 1, 0, 6);
        c.sheet.removeRow(2, 6);
        c.throwingSame("the last one is gone", UnsupportedOperationException.class, () -> c.sheet.undo(1));
    }

    private static void changesNothing() {
        Check.says("A method that throws an exception changes nothing.");
        Check c = new Check();
        c.put(0, "a0", "=a0+1");
        c.put(1, "b0", "=seq(2)");
        c.sheet.write(0, 0);
        c.type("=1+");
        c.throwingSame("type", IllegalArgumentException.class, () -> c.sheet.type((char) 200));
        c.throwingSame("enter", UnsupportedOperationException.class, () -> c.sheet.enter(0, 1, 1));
        c.throwingSame("define", UnsupportedOperationException.class, () -> c.sheet.define('A'));
        c.throwingSame("fill", NoSuchElementException.class, () -> c.sheet.fill(0, 1, 1, 0, 0));
        c.throwingSame("insertRow", IndexOutOfBoundsException.class, () -> c.sheet.insertRow(0, 7));
        c.throwingSame("sortRows", IllegalArgumentException.class, () -> c.sheet.sortRows(0, 0, 5, 4));
        c.throwingSame("undo", NoSuchElementException.class, () -> c.sheet.undo(2));
        c.throwingSame("write", NoSuchElementException.class, () -> c.sheet.write(1, 1));
        c.throwingSame("textAt", NoSuchElementException.class, () -> c.sheet.textAt(0, 0, 0));
        Check.same("written", c.sheet.writtenAt(4), '1');
        Check.same("typed", c.sheet.erase(), 3);
    }
}
