/** Promises 15 and 16: each hand undoes what it did alone. */
public final class HandsTest {
    public static void main(String[] args) {
        keeping();
        undoingContents();
        undoingAlike();
        undoingFills();
        undoingInserts();
        undoingRemovals();
        undoingRemovalsBeyond();
        undoingSorts();
        undoingWrongly();
        notKept();
        Check.end();
    }

    private static void keeping() {
        Check c = new Check();
        for (int i = 1; i <= 10; i++) {
            c.put(1, "a0", "" + i);
            Check.same("kept", c.sheet.kept(1), Math.min(8, i));
        }
        Check.same("kept of another hand", c.sheet.kept(0), 0);
        for (int i = 7; i >= 0; i--) {
            Check.same("undo", c.sheet.undo(1), i);
        }
        c.holds("a0", "2.0");
        Check.none("undo of what is not kept", () -> c.sheet.undo(1));
        c.put(1, "a0", "x");
        Check.same("kept", c.sheet.kept(1), 1);
        Check.same("undo", c.sheet.undo(1), 0);
        c.holds("a0", "2.0");
        Check.none("undo of what is not kept", () -> c.sheet.undo(1));
        Check.illegal("kept of hand -1", () -> c.sheet.kept(-1));
        Check.illegal("kept of hand 3", () -> c.sheet.kept(3));
        Check.illegal("undo of hand -1", () -> c.sheet.undo(-1));
        Check.illegal("undo of hand 3", () -> c.sheet.undo(3));
    }

    private static void undoingContents() {
        Check c = new Check();
        c.put(0, "a0", "5");
        c.put(0, "a0", "=b0+1");
        c.put(1, "b0", "2");
        c.holds("a0", "3.0");
        Check.same("undo", c.sheet.undo(0), 1);
        c.holds("a0", "5.0");
        Check.same("undo", c.sheet.undo(0), 0);
        Check.same("contentAt", c.sheet.contentAt(0, 0), 'b');
        c.holds("b0", "2.0");
        c.put(0, "a0", "x");
        c.sheet.insertRow(1, 0);
        c.sheet.insertColumn(1, 0);
        c.sheet.sortRows(2, 1, 0, 6);
        c.holds("b0", "'x");
        c.sheet.undo(0);
        Check.same("wherever the cell went", c.sheet.contentAt(0, 1), 'b');
    }

    private static void undoingAlike() {
        Check c = new Check();
        c.put(0, "a0", "5");
        c.put(1, "a0", "5");
        c.throwingSame("something alike", UnsupportedOperationException.class, () -> c.sheet.undo(0));
        Check.same("undo of the later one", c.sheet.undo(1), 0);
        Check.same("undo of the first one", c.sheet.undo(0), 0);
        Check.same("contentAt", c.sheet.contentAt(0, 0), 'b');
        c.put(0, "a0", "");
        c.put(1, "a0", "");
        Check.same("an empty cell is as good as another one", c.sheet.undo(0), 0);
        c.put(0, "a0", "=1");
        c.put(1, "a0", "");
        c.throwingSame("an empty cell", UnsupportedOperationException.class, () -> c.sheet.undo(0));
        c.put(1, "a0", "=1");
        c.throwingSame("a formula alike", UnsupportedOperationException.class, () -> c.sheet.undo(0));
        c.sheet.undo(1);
        c.sheet.undo(1);
        Check.same("undo", c.sheet.undo(0), 0);
        c.put(0, "a1", "");
        c.put(1, "a1", "7");
        c.throwingSame("not empty", UnsupportedOperationException.class, () -> c.sheet.undo(0));
        c.put(2, "a1", "");
        Check.same("empty again", c.sheet.undo(0), 0);
        c.throwingSame("the 7 is not there", UnsupportedOperationException.class, () -> c.sheet.undo(1));
    }

    private static void undoingFills() {
        Check c = new Check();
        c.put(0, "a0", "5");
        c.put(1, "b0", "x");
        c.sheet.fill(2, 0, 0, 0, 1);
        c.holds("b0", "5.0");
        c.throwingSame("filled over", UnsupportedOperationException.class, () -> c.sheet.undo(1));
        Check.same("undo of the fill", c.sheet.undo(2), 0);
        c.holds("b0", "'x");
        c.sheet.fill(2, 0, 0, 0, 0);
        c.throwingSame("filled onto itself", UnsupportedOperationException.class, () -> c.sheet.undo(0));
        c.sheet.undo(2);
        Check.same("undo", c.sheet.undo(0), 0);
    }

    private static void undoingInserts() {
        Check c = new Check();
        c.put(0, "a0", "5");
        c.sheet.insertRow(1, 1);
        c.put(0, "b0", "=a1");
        c.put(0, "b3", "=seq(2)");
        c.sheet.sortRows(2, 2, 0, 6);
        Check.same("undo", c.sheet.undo(1), 0);
        Check.same("rows", c.sheet.rows(), 6);
        c.holds("b0", "!r");
        c.holds("b3", "2.0");
        c.sheet.insertColumn(1, 0);
        c.put(0, "a5", "x");
        c.throwingSame("not empty", UnsupportedOperationException.class, () -> c.sheet.undo(1));
        c.put(0, "a5", "");
        Check.same("undo", c.sheet.undo(1), 0);
        Check.same("columns", c.sheet.columns(), 6);
        c.sheet.insertRow(1, 5);
        c.put(0, "a3", "=seq(3)");
        c.holds("a5", "3.0");
        Check.same("what is put down is no content", c.sheet.undo(1), 0);
        c.sheet.insertRow(1, 0);
        c.sheet.removeRow(0, 0);
        c.throwingSame("not there", UnsupportedOperationException.class, () -> c.sheet.undo(1));
        c.sheet.undo(0);
        Check.same("there again", c.sheet.undo(1), 0);
        c.sheet.insertRow(1, 0);
        for (int i = 0; i < 6; i++) {
            c.sheet.removeRow(2, 1);
        }
        c.throwingSame("the last one", UnsupportedOperationException.class, () -> c.sheet.undo(1));
        Check.same("kept", c.sheet.kept(1), 1);
    }

    private static void undoingRemovals() {
        Check c = new Check();
        c.put(0, "a1", "5");
        c.put(0, "b1", "=a1+c0");
        c.put(0, "c0", "=a1");
        c.put(0, "d0", "=sum(a0:a2)");
        c.sheet.hide(1, true);
        c.sheet.removeRow(1, 1);
        c.holds("c0", "d0", "!r 0.0");
        Check.same("undo", c.sheet.undo(1), 0);
        c.holds("a1", "b1", "5.0 10.0");
        c.holds("c0", "d0", "5.0 5.0");
        c.writes("c0", "=a1");
        Check.same("hidden as ahead", c.sheet.hide(1, false), true);
        Check.same("what was entered is there", c.sheet.undo(0), 3);
        c.sheet.undo(0);
        c.sheet.undo(0);
        Check.same("undo of what came back", c.sheet.undo(0), 0);
        Check.same("contentAt", c.sheet.contentAt(1, 0), 'b');
        c.put(0, "f5", "x");
        c.sheet.removeRow(1, 5);
        c.throwingSame("not there", UnsupportedOperationException.class, () -> c.sheet.undo(0));
        c.sheet.removeRow(2, 3);
        c.sheet.removeRow(2, 3);
        Check.same("undo at the end", c.sheet.undo(1), 0);
        Check.same("rows", c.sheet.rows(), 4);
        c.holds("f3", "'x");
        c.sheet.removeColumn(1, 0);
        Check.same("undo of a column", c.sheet.undo(1), 0);
        c.holds("f3", "'x");
    }

    private static void undoingRemovalsBeyond() {
        Check c = new Check();
        c.put(0, "a0", "1");
        c.put(0, "b0", "2");
        c.put(0, "a1", "3");
        c.sheet.removeRow(1, 0);
        c.sheet.removeColumn(2, 0);
        Check.same("undo without the column", c.sheet.undo(1), 0);
        c.holds("a0", "2.0");
        Check.same("undo of the column", c.sheet.undo(2), 0);
        c.holds("a0", "b1", " 2.0/3.0 ");
        c.sheet.removeRow(1, 0);
        c.sheet.removeColumn(2, 1);
        c.sheet.undo(2);
        c.sheet.insertColumn(0, 1);
        Check.same("undo with another column", c.sheet.undo(1), 0);
        c.holds("a0", "c0", "  2.0");
        c.sheet.removeRow(1, 0);
        for (int i = 0; i < 5; i++) {
            c.sheet.insertRow(0, 0);
        }
        c.throwingSame("no room", UnsupportedOperationException.class, () -> c.sheet.undo(1));
        c.sheet.removeRow(2, 9);
        Check.same("room", c.sheet.undo(1), 0);
        Check.same("rows", c.sheet.rows(), 10);
        c.holds("c0", "2.0");
    }

    private static void undoingSorts() {
        Check c = new Check();
        c.put(0, "a0", "3");
        c.put(0, "a1", "1");
        c.put(0, "a2", "2");
        c.sheet.sortRows(1, 0, 0, 2);
        c.put(0, "b0", "x");
        Check.same("undo", c.sheet.undo(1), 0);
        c.holds("a0", "b2", "3.0 /1.0 'x/2.0 ");
        c.sheet.sortRows(1, 0, 0, 2);
        c.sheet.insertRow(2, 0);
        c.throwingSame("at other places", UnsupportedOperationException.class, () -> c.sheet.undo(1));
        c.sheet.undo(2);
        Check.same("at the same places again", c.sheet.undo(1), 0);
        c.sheet.sortRows(1, 0, 0, 2);
        c.put(0, "a0", "9");
        c.sheet.sortRows(2, 0, 0, 2);
        c.throwingSame("in another order", UnsupportedOperationException.class, () -> c.sheet.undo(1));
        c.sheet.undo(2);
        c.sheet.insertRow(2, 3);
        Check.same("rows beyond do not matter", c.sheet.undo(1), 0);
        c.holds("a0", "a2", "3.0/9.0/2.0");
        c.sheet.sortRows(1, 0, 0, 2);
        c.sheet.removeRow(2, 2);
        c.throwingSame("one is gone", UnsupportedOperationException.class, () -> c.sheet.undo(1));
        c.sheet.undo(2);
        Check.same("it is there again", c.sheet.undo(1), 0);
        c.sheet.sortRows(1, 0, 4, 5);
        c.sheet.removeRow(2, 0);
        c.sheet.removeRow(2, 0);
        c.throwingSame("beyond the end", UnsupportedOperationException.class, () -> c.sheet.undo(1));
    }

    private static void undoingWrongly() {
        Check c = new Check();
        Check.illegal("undo of no hand", () -> c.sheet.undo(3));
        c.throwingSame("nothing kept", java.util.NoSuchElementException.class, () -> c.sheet.undo(0));
        c.put(0, "a0", "5");
        c.sheet.removeColumn(1, 0);
        c.throwingSame("the column is gone", UnsupportedOperationException.class, () -> c.sheet.undo(0));
        Check.same("kept", c.sheet.kept(0), 1);
    }

    private static void notKept() {
        Check c = new Check();
        c.sheet.hide(0, true);
        c.name('A', "=1");
        c.type("zz");
        Check.none("undo of nothing", () -> c.sheet.undo(0));
        c.put(0, "a0", "1");
        c.type("abc");
        c.sheet.undo(0);
        Check.same("typed as before", c.sheet.erase(), 3);
        Check.same("undo is no edit", c.sheet.kept(0), 0);
    }
}
