/** Promises 17 to 27 and 31 to 34: the values of cells, the passes that find them, and the figures. */
public final class PassesTest {
    public static void main(String[] args) {
        askingValues();
        askingWrongly();
        spilling();
        blocking();
        countingPasses();
        countingWork();
        skippingWork();
        circles();
        circlesOfArrays();
        restingCircles();
        lastRows();
        readers();
        figures();
        bits();
        whenDue();
        Check.end();
    }

    private static void askingValues() {
        Check c = new Check();
        c.put("a0", "-2.5");
        c.put("a1", "xy");
        c.put("a2", "=1/0");
        c.put("a3", "=a1");
        c.put("a4", "=b4");
        Check.same("kindAt", c.sheet.kindAt(0, 0), 'n');
        Check.same("kindAt", c.sheet.kindAt(1, 0), 't');
        Check.same("kindAt", c.sheet.kindAt(2, 0), 'e');
        Check.same("kindAt", c.sheet.kindAt(3, 0), 't');
        Check.same("kindAt", c.sheet.kindAt(4, 0), 'b');
        Check.same("kindAt", c.sheet.kindAt(5, 5), 'b');
        Check.same("kindByAll", c.sheet.kindByAll(2, 0), 'e');
        Check.same("kindByAll", c.sheet.kindByAll(3, 0), 't');
        Check.same("numberAt", c.sheet.numberAt(0, 0), -2.5);
        Check.same("numberByAll", c.sheet.numberByAll(0, 0), -2.5);
        Check.same("errorAt", c.sheet.errorAt(2, 0), 'd');
        Check.same("textLength", c.sheet.textLength(3, 0), 2);
        Check.same("textAt", c.sheet.textAt(3, 0, 1), 'y');
        c.put("b0", "=a0*a0");
        Check.same("numberByAll", c.sheet.numberByAll(0, 1), 6.25);
        c.put("b1", "=\"\"");
        Check.same("textLength of the empty text", c.sheet.textLength(1, 1), 0);
        c.throwingSame("textAt of it", java.util.NoSuchElementException.class, () -> c.sheet.textAt(1, 1, 0));
    }

    private static void askingWrongly() {
        Check c = new Check();
        c.put("a0", "7");
        c.put("a1", "xy");
        c.put("a2", "=1/0");
        int[][] cells = {{-1, 0}, {0, -1}, {6, 0}, {0, 6}, {Integer.MAX_VALUE, 0}, {0, Integer.MIN_VALUE}};
        for (int[] cell : cells) {
            int row = cell[0];
            int column = cell[1];
            Check.outside("kindAt", () -> c.sheet.kindAt(row, column));
            Check.outside("numberAt", () -> c.sheet.numberAt(row, column));
            Check.outside("errorAt", () -> c.sheet.errorAt(row, column));
            Check.outside("textLength", () -> c.sheet.textLength(row, column));
            Check.outside("textAt", () -> c.sheet.textAt(row, column, -1));
            Check.outside("kindByAll", () -> c.sheet.kindByAll(row, column));
            Check.outside("numberByAll", () -> c.sheet.numberByAll(row, column));
            Check.outside("spillOf", () -> c.sheet.spillOf(row, column));
            Check.outside("readers", () -> c.sheet.readers(row, column));
            Check.outside("bitsOf", () -> c.sheet.bitsOf(row, column));
        }
        for (int row = 1; row < 4; row++) {
            int at = row;
            Check.none("numberAt", () -> c.sheet.numberAt(at, 0));
            Check.none("numberByAll", () -> c.sheet.numberByAll(at, 0));
            Check.none("bitsOf", () -> c.sheet.bitsOf(at, 0));
        }
        for (int row : new int[] {0, 1, 3}) {
            Check.none("errorAt", () -> c.sheet.errorAt(row, 0));
        }
        for (int row : new int[] {0, 2, 3}) {
            Check.none("textLength", () -> c.sheet.textLength(row, 0));
            Check.none("textAt", () -> c.sheet.textAt(row, 0, 0));
        }
        Check.none("textAt -1", () -> c.sheet.textAt(1, 0, -1));
        Check.none("textAt 2", () -> c.sheet.textAt(1, 0, 2));
        Check.none("textAt far", () -> c.sheet.textAt(1, 0, Integer.MAX_VALUE));
        Check.none("spillOf", () -> c.sheet.spillOf(0, 0));
        Check.none("spillOf", () -> c.sheet.spillOf(3, 0));
    }

    private static void spilling() {
        Check c = new Check();
        c.put("b1", "=seq(2,3)");
        Check.same("spillOf its own cell", c.spill("b1"), 11);
        Check.same("spillOf", c.spill("d2"), 11);
        Check.same("spillOf beside it", c.spill("e1"), -1);
        c.put("a0", "=sum(b1:d2)");
        c.holds("a0", "21.0");
        c.put("b1", "=seq(2,2)");
        c.holds("b1", "d2", "1.0 2.0 /3.0 4.0 ");
        Check.same("spillOf what was left", c.spill("d1"), -1);
        c.holds("a0", "10.0");
        c.put("e1", "=b3:c4");
        c.put("b3", "x");
        c.holds("e1", "f2", "'x / ");
        Check.same("spillOf a blank thing", c.spill("f2"), 14);
        c.sheet.insertRow(0, 0);
        Check.same("spillOf behind a row", c.spill("c3"), 21);
        Check.same("one thing is no array", c.put("a5", "=seq(1)"), 'f');
        Check.same("spillOf it", c.spill("a5"), -1);
    }

    private static void blocking() {
        Check c = new Check();
        c.put("a0", "=seq(2,2)");
        c.put("b1", "x");
        c.holds("a0", "b1", "!s / 'x");
        Check.same("spillOf what is blocked", c.spill("a0"), -1);
        c.put("b1", "=c5");
        c.holds("a0", "b1", "!s / ");
        c.put("b1", "");
        c.holds("a0", "b1", "1.0 2.0/3.0 4.0");
        c.put("b0", "=1");
        c.holds("a0", "!s");
        c.put("b0", "");
        c.put("a5", "=seq(2)");
        c.holds("a5", "!s");
        c.put("f5", "=seq(1,2)");
        c.holds("f5", "!s");
        c.put("e5", "=seq(1,2)");
        c.holds("e5", "!s");
        c.put("f5", "");
        c.holds("e5", "f5", "1.0 2.0");
        c.put("c0", "=seq(2,2)");
        c.put("d1", "");
        c.holds("c0", "d1", "1.0 2.0/3.0 4.0");
        c.put("b2", "=seq(2,2)");
        c.put("c3", "");
        c.holds("b2", "c3", "1.0 2.0/3.0 4.0");
        c.put("c0", "=seq(3,2)");
        c.holds("b2", "c3", "!s 5.0/ ");
        Check.same("the first one by rows and columns", c.spill("c2"), 2);
        c.put("b0", "=trans(seq(3))");
        c.holds("b0", "!s");
    }

    private static void countingPasses() {
        Check c = new Check();
        c.put("a0", "3");
        Check.same("passes without formulas", c.sheet.passes(), 1);
        Check.same("workedOut without formulas", c.sheet.workedOut(), 0);
        c.put("a1", "=b5");
        Check.same("passes of a blank result", c.sheet.passes(), 1);
        c.put("a1", "=a0");
        Check.same("passes", c.sheet.passes(), 2);
        c.put("a2", "=a1");
        c.put("a3", "=a2");
        Check.same("passes of a chain", c.sheet.passes(), 4);
        c.put("b0", "=a3");
        c.put("b1", "=b0");
        Check.same("passes of a longer chain", c.sheet.passes(), 6);
        c.holds("b1", "3.0");
        c.put("c0", "=d0");
        c.put("d0", "=e0");
        c.put("e0", "=b1");
        Check.same("passes of a chain that runs back", c.sheet.passes(), 9);
        c.sheet.undo(0);
        Check.same("passes behind undo", c.sheet.passes(), 6);
    }

    private static void countingWork() {
        Check c = new Check();
        c.put("a0", "3");
        c.put("a1", "=a0");
        c.put("a2", "=a1");
        c.put("a3", "=a2");
        Check.same("workedOut of a chain", c.sheet.workedOut(), 3 + 1 + 1);
        c.put("b0", "=1");
        Check.same("workedOut with one that reads nothing", c.sheet.workedOut(), 6);
        c.put("b1", "=a1+a2");
        Check.same("workedOut with one that reads two", c.sheet.workedOut(), 6 + 3);
        c.sheet.kindByAll(0, 0);
        Check.same("the other way does not count", c.sheet.workedOut(), 9);
        Check.same("nor its passes", c.sheet.passes(), 4);
        c.name('A', "=a1+1");
        c.put("b2", "=A+A");
        Check.same("names do not count", c.sheet.workedOut(), 11);
    }

    private static void skippingWork() {
        Check c = new Check();
        c.put("a0", "=if(b0,c0,d0)");
        c.put("b0", "1");
        c.put("c0", "=e0");
        c.put("d0", "=e0");
        c.put("e0", "=5");
        // c0 and d0 change in the second pass, but a0 read d0 never, and c0 in the first one.
        Check.same("workedOut", c.sheet.workedOut(), 4 + 2 + 1);
        c.holds("a0", "5.0");
        Check.same("readers", c.readers("d0"), 0);
        c.put("b0", "=0*e0+0");
        Check.same("a value that stays alike is none that changes", c.sheet.isSound(), true);
        c.holds("a0", "5.0");
    }

    private static void circles() {
        Check c = new Check();
        c.put("a0", "=a0+1");
        c.holds("a0", "!c");
        Check.same("passes", c.sheet.passes(), 40);
        Check.same("workedOut", c.sheet.workedOut(), 40);
        Check.same("kindByAll", c.sheet.kindByAll(0, 0), 'e');
        Check.same("a circle reads itself", c.readers("a0"), 1);
        c.put("b0", "=a0");
        c.put("c0", "=b0*0");
        c.put("d0", "7");
        c.holds("a0", "d0", "!c !c 0.0 7.0");
        Check.same("errors", c.sheet.errors(), 2);
        c.put("a0", "=b0+1");
        // They take turns, and only the result of b0 changed in the 40th pass.
        c.holds("a0", "b0", "20.0 !c");
        c.put("a0", "=iferr(1/(b0-3),5)");
        Check.same("isSound", c.sheet.isSound(), true);
        c.put("a0", "");
        c.holds("a0", "c0", "  0.0");
    }

    private static void circlesOfArrays() {
        Check c = new Check();
        c.put("a0", "=seq(2)+a1");
        c.holds("a0", "a1", "!c/");
        Check.same("spillOf", c.spill("a0"), -1);
        Check.same("spillOf", c.spill("a1"), -1);
        c.put("a0", "=seq(2)+c0");
        c.put("c0", "=a0");
        c.holds("a0", "c0", "20.0  !c");
        c.holds("a1", "21.0");
        Check.same("spillOf", c.spill("a1"), 0);
        Check.same("isSound", c.sheet.isSound(), true);
        c.put("c0", "=1-c0");
        c.put("a0", "=seq(2+c0)");
        // Its things are alike in the last passes, but how many there are changed.
        c.holds("a0", "a2", "!c//");
        // The result is alike in all passes, though where it goes is not.
        c.put("c0", "");
        c.put("a0", "=seq(2)");
        c.put("d0", "=seq(2,1+(d1=2))");
        Check.same("isSound", c.sheet.isSound(), true);
        c.holds("a0", "a1", "1.0/2.0");
    }

    private static void lastRows() {
        Check c = new Check();
        for (int i = 6; i < 10; i++) {
            c.sheet.insertRow(0, i);
        }
        c.name('A', "=b8");
        c.name('B', "=b9+A");
        c.put("a0", "=a8+A+B");
        c.put("a8", "=a9");
        c.put("a9", "=5");
        c.put("b8", "=b9");
        c.put("b9", "=7");
        c.holds("a0", "26.0");
        Check.same("passes", c.sheet.passes(), 4);
        Check.same("workedOut", c.sheet.workedOut(), 5 + 3 + 1);
        Check.same("readers of a8", c.readers("a8"), 1);
        Check.same("readers of a9", c.readers("a9"), 1);
        Check.same("readers of b8", c.readers("b8"), 1);
        Check.same("readers of b9", c.readers("b9"), 2);
        Check.same("readers of a1", c.readers("a1"), 0);
        c.put("c0", "=A");
        Check.same("readers of b9 through no name", c.readers("b9"), 2);
        Check.same("readers of b8", c.readers("b8"), 2);
    }

    private static void restingCircles() {
        Check c = new Check();
        c.put("a0", "=a0*1");
        c.holds("a0", "0.0");
        Check.same("passes", c.sheet.passes(), 2);
        c.put("a0", "=min(a0+1,5)");
        c.holds("a0", "5.0");
        Check.same("passes", c.sheet.passes(), 6);
        c.put("a0", "=iferr(a0,1)");
        c.holds("a0", "");
        Check.same("passes", c.sheet.passes(), 1);
        c.put("a0", "=min(a0+1,39)");
        c.holds("a0", "39.0");
        Check.same("passes at the limit", c.sheet.passes(), 40);
        c.put("a0", "=min(a0+1,40)");
        c.holds("a0", "!c");
        Check.same("passes at the limit", c.sheet.passes(), 40);
    }

    private static void readers() {
        Check c = new Check();
        c.put("a0", "=b0+b0+sum(b0:b1)");
        c.put("a1", "=sum($b$0:c1)");
        c.put("a2", "=rows(b0:b5)");
        Check.same("readers of b0", c.readers("b0"), 3);
        Check.same("readers of b1", c.readers("b1"), 3);
        Check.same("readers of c0", c.readers("c0"), 1);
        Check.same("readers of b5", c.readers("b5"), 1);
        Check.same("readers of d0", c.readers("d0"), 0);
        c.sheet.removeRow(0, 5);
        Check.same("a range with what is gone reads nothing", c.readers("b4"), 0);
        c.put("a3", "=1/0+b3");
        Check.same("both parts are worked out", c.readers("b3"), 1);
    }

    private static void figures() {
        Check c = new Check();
        Check.same("errors", c.sheet.errors(), 0);
        Check.same("filledShare", c.sheet.filledShare(), 0.0f);
        Check.same("isSound", c.sheet.isSound(), true);
        c.put("a0", "=seq(2,2)/(seq(2,2)-1)");
        c.put("c0", "x");
        c.put("c1", "=e4");
        Check.same("errors", c.sheet.errors(), 1);
        Check.same("filledShare", c.sheet.filledShare(), 5 / 36f);
        c.sheet.removeRow(0, 5);
        Check.same("filledShare", c.sheet.filledShare(), 5 / 30f);
        c.put("c1", "=\"\"");
        Check.same("filledShare with an empty text", c.sheet.filledShare(), 6 / 30f);
        Check.same("isSound", c.sheet.isSound(), true);
    }

    private static void bits() {
        Check c = new Check();
        String[] numbers = {"0", "1", "-1", "2", "0.5", "0.1", "-0.3", "3.1416", "123456789.1234", "-999999999.9999",
            "0.0001", "-0"};
        for (String number : numbers) {
            c.put("a0", number);
            Check.same("bits of " + number, c.sheet.bitsOf(0, 0), Double.doubleToLongBits(Double.parseDouble(number)));
        }
        c.put("a0", "0.0001");
        c.put("a1", "=a0*a0*a0*a0*a0*a0*a0*a0");
        c.put("a2", "=a1*a1*a1*a1*a1*a1*a1*a1");
        c.put("a3", "=a2*a1*a0*a0*a0");
        String[] small = {"a3", "a3*a0", "a3*a0*a0", "a3*a0*a0*a0", "a3*a0*a0*a0*a0", "a3*a0*a0*a0*a0*a0",
            "a3*a0*a0*a0*a0*0.003", "-a3*a0*a0*a0*a0*0.02"};
        for (String formula : small) {
            c.put("b0", "=" + formula);
            double number = c.sheet.numberAt(0, 1);
            Check.same("bits of " + number, c.sheet.bitsOf(0, 1), Double.doubleToLongBits(number));
        }
        c.put("a0", "999999999.9999");
        c.put("a2", "=a1*a1*a1*a1");
        c.put("b0", "=a2*a0*a0*1.7");
        double number = c.sheet.numberAt(0, 1);
        Check.same("bits of " + number, c.sheet.bitsOf(0, 1), Double.doubleToLongBits(number));
    }

    private static void whenDue() {
        Check c = new Check();
        c.put("a0", "1");
        c.put("a1", "=sub(a0)");
        c.holds("a1", "1.0");
        c.sheet.hide(0, true);
        c.holds("a1", "0.0");
        c.sheet.hide(0, false);
        c.holds("a1", "1.0");
        c.put("a2", "=A");
        c.holds("a2", "!n");
        c.name('A', "=5");
        c.holds("a2", "5.0");
        Check.same("numberByAll", c.sheet.numberByAll(2, 0), 5.0);
        c.put("b0", "=rows(a0:a1)");
        c.holds("b0", "2.0");
        c.sheet.insertRow(0, 1);
        c.holds("b0", "3.0");
        c.sheet.undo(0);
        c.holds("b0", "2.0");
        c.sheet.removeRow(0, 0);
        c.holds("a0", "!r");
        c.put("a3", "=a1");
        c.holds("a3", "5.0");
        c.type("=1");
        c.holds("a3", "5.0");
    }
}
