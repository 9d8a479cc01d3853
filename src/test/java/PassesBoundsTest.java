import java.util.NoSuchElementException;

/** Each sentence of "Passes" and "Working out", and of promises 17 to 27 and 31 to 34, that names a boundary. */
public final class PassesBoundsTest {
    private static final int[] BEYOND = {-1, 6, 10, Integer.MIN_VALUE, Integer.MAX_VALUE};

    public static void main(String[] args) {
        blankAhead();
        theValuesAhead();
        anArrayFits();
        noContentButItsOwn();
        noArrayOnThem();
        blockedInItsCell();
        allOthersAreBlank();
        workedOutInTheFirstPass();
        workedOutLater();
        readWhenItWasWorkedOutLast();
        overWithoutChange();
        fortyPasses();
        whoseResultChanged();
        whatItHadPutDown();
        alikeInKind();
        equalNumbers();
        whenItIsDue();
        notDue();
        fromTheBeginning();
        kinds();
        numberAt();
        errorAt();
        eachError();
        textLength();
        textAt();
        byAll();
        spillOf();
        spillOfNone();
        passesAndWork();
        readersOfACell();
        errorsOfCells();
        bitsOfNumbers();
        filledShare();
        isSound();
        Check.end();
    }

    private static void blankAhead() {
        Check.says("Ahead of the first one, the value of each cell with a formula is blank");
        Check c = new Check();
        c.put("a0", "=iferr(a0,1)");
        c.holds("a0", "");
        c.put("a0", "=max(a0,b0)");
        c.put("b0", "5");
        c.holds("a0", "5.0");
        c.put("b0", "3");
        c.holds("a0", "3.0");
        c.put("a0", "=if(a0=0,1,a0)");
        c.holds("a0", "1.0");
        Check.says("and of each cell without a content, is blank");
        c.put("a0", "=seq(2)");
        c.put("c0", "=max(c0,a1)");
        c.holds("c0", "2.0");
        Check.same("passes", c.sheet.passes(), 3);
        c.put("f5", "7");
        // With the 2 in a1 ahead of the first one, it would be over in two.
        Check.same("passes behind another edit", c.sheet.passes(), 3);
    }

    private static void theValuesAhead() {
        Check.says("In a pass, each formula is worked out with the values that cells had ahead of it");
        Check c = new Check();
        c.put("a0", "=b0+1");
        c.put("b0", "=a0+0");
        // From blanks, both run up, a step behind each other.
        c.holds("a0", "b0", "20.0 !c");
        Check.same("passes", c.sheet.passes(), 40);
        c.put("a0", "=5");
        c.put("b0", "=a0");
        c.put("c0", "=b0+a0");
        c.holds("a0", "c0", "5.0 5.0 10.0");
        Check.same("passes", c.sheet.passes(), 4);
        Check.same("workedOut", c.sheet.workedOut(), 6);
    }

    private static void anArrayFits() {
        Check.says("if all of these cells are in the sheet");
        Check c = new Check();
        c.put("a0", "=seq(6,6)");
        c.holds("a0", "1.0");
        c.holds("f5", "36.0");
        c.put("a0", "=seq(7)");
        c.holds("a0", "a1", "!s/");
        c.put("a0", "=seq(1,7)");
        c.holds("a0", "b0", "!s ");
        c.put("a0", "=seq(7,6)");
        c.holds("a0", "!s");
        c.put("a0", "");
        c.put("e4", "=seq(2,2)");
        c.holds("e4", "f5", "1.0 2.0/3.0 4.0");
        c.put("e4", "=seq(3,2)");
        c.holds("e4", "!s");
        c.put("e4", "=seq(2,3)");
        c.holds("e4", "!s");
        c.sheet.insertColumn(0, 6);
        c.holds("e4", "g5", "1.0 2.0 3.0/4.0 5.0 6.0");
        c.put("g5", "=seq(1,2)");
        c.holds("g5", "!s");
        c.holds("e4", "!s");
        Check d = new Check().grow();
        d.put("c0", "=seq(10,6)");
        d.holds("h9", "60.0");
        d.put("c0", "");
        d.put("h9", "=seq(1,2)");
        d.holds("h9", "!s");
    }

    private static void noContentButItsOwn() {
        Check.says("and have no content but its own");
        Check c = new Check();
        c.put("a0", "=seq(2,2)");
        c.holds("a0", "b1", "1.0 2.0/3.0 4.0");
        for (String content : new String[] {"0", "x", " ", "=f5", "=1", "=\"\""}) {
            for (String cell : new String[] {"b0", "a1", "b1"}) {
                c.put(cell, content);
                c.holds("a0", "!s");
                c.put(cell, "");
                c.holds("a0", "b1", "1.0 2.0/3.0 4.0");
            }
        }
        for (String cell : new String[] {"c0", "c1", "c2", "a2", "b2"}) {
            c.put(cell, "x");
        }
        c.holds("a0", "b1", "1.0 2.0/3.0 4.0");
    }

    private static void noArrayOnThem() {
        Check.says("and no array was put down on them in this pass");
        Check c = new Check();
        c.put("b0", "=seq(2)");
        c.put("a1", "=seq(1,2)");
        c.holds("a0", "b1", " 1.0/!s 2.0");
        c.put("b0", "=seq(1,2)");
        c.holds("a0", "c1", " 1.0 2.0/1.0 2.0 ");
        c.put("b0", "=seq(2)");
        c.put("a0", "=seq(1,1)");
        c.holds("a0", "b1", "1.0 1.0/!s 2.0");
        c.put("b0", "=seq(7)");
        // What is blocked was not put down, and does not block another one.
        c.holds("a0", "b1", "1.0 !s/1.0 2.0");
        Check.says("Then, by rows and then columns, results are put down");
        Check d = new Check();
        d.put("a2", "=seq(1,3)");
        d.put("b1", "=seq(3)");
        d.put("c0", "=seq(4)");
        d.holds("a0", "c3", "  1.0/ 1.0 2.0/!s 2.0 3.0/ 3.0 4.0");
        d.put("c0", "=seq(2)");
        d.holds("a2", "c2", "!s 2.0 ");
        d.put("b1", "");
        d.holds("a2", "c2", "1.0 2.0 3.0");
    }

    private static void blockedInItsCell() {
        Check.says("otherwise, it is the error 's' in its cell");
        Check c = new Check();
        c.put("a0", "=seq(3,3)");
        c.put("c2", "x");
        c.holds("a0", "c2", "!s  /  /  'x");
        Check.same("errors", c.sheet.errors(), 1);
        c.put("d0", "=a0");
        c.holds("d0", "!s");
        c.put("d1", "=iferr(a0,7)+sum(b0:b1)");
        c.holds("d1", "7.0");
    }

    private static void allOthersAreBlank() {
        Check.says("All other cells without a content are blank.");
        Check c = new Check();
        c.put("a0", "=seq(3,2)");
        c.holds("a0", "c3", "1.0 2.0 /3.0 4.0 /5.0 6.0 /  ");
        c.put("a0", "=seq(2,1)");
        c.holds("a0", "c3", "1.0  /2.0  /  /  ");
        c.put("a0", "5");
        c.holds("a0", "c3", "5.0  /  /  /  ");
        c.put("a0", "");
        Check.same("filledShare", c.sheet.filledShare(), 0.0f);
    }

    private static void workedOutInTheFirstPass() {
        Check.says("A formula is worked out in the first pass");
        Check c = new Check();
        c.put("a0", "5");
        Check.same("passes without formulas", c.sheet.passes(), 1);
        Check.same("workedOut without formulas", c.sheet.workedOut(), 0);
        c.put("b0", "=1");
        Check.same("passes", c.sheet.passes(), 2);
        Check.same("workedOut", c.sheet.workedOut(), 1);
        c.put("b1", "=f5");
        Check.same("passes", c.sheet.passes(), 2);
        Check.same("workedOut", c.sheet.workedOut(), 2);
        c.put("b0", "");
        Check.same("passes", c.sheet.passes(), 1);
        Check.same("workedOut", c.sheet.workedOut(), 1);
    }

    private static void workedOutLater() {
        Check.says("and in a later one if the value of a cell that it read has become another one in the pass ahead");
        Check c = new Check();
        c.put("a0", "=1");
        c.put("b0", "=a0");
        Check.same("workedOut", c.sheet.workedOut(), 3);
        c.put("c0", "=b0");
        // The first one once, and each of the others again behind the one that it reads.
        Check.same("workedOut", c.sheet.workedOut(), 3 + 1 + 1);
        Check.same("passes", c.sheet.passes(), 4);
        c.put("c0", "=b0+a0");
        Check.same("of one that reads both", c.sheet.workedOut(), 3 + 2 + 1);
        c.put("c0", "=d0");
        Check.same("of what does not change", c.sheet.workedOut(), 4);
        c.put("c0", "=sum(a0:b0)");
        Check.same("of a range", c.sheet.workedOut(), 6);
    }

    private static void readWhenItWasWorkedOutLast() {
        Check.says("a cell that it read when it was worked out last");
        Check c = new Check();
        c.put("a0", "=1");
        c.put("b0", "=a0");
        c.put("c0", "=if(a0,5,b0)");
        // c0 reads b0 in the first pass; in the second one it does not, so the change of b0 there is nothing to it.
        c.holds("c0", "5.0");
        Check.same("workedOut", c.sheet.workedOut(), 3 + 2);
        Check.same("readers", c.readers("b0"), 0);
        c.put("c0", "=if(a0,b0,5)");
        Check.same("workedOut", c.sheet.workedOut(), 3 + 2 + 1);
        Check.same("readers", c.readers("b0"), 1);
    }

    private static void overWithoutChange() {
        Check.says("If no value of a cell has changed in a pass, it is over.");
        Check c = new Check();
        c.put("a0", "=b0");
        Check.same("blank stays blank", c.sheet.passes(), 1);
        c.put("a0", "=0");
        Check.same("blank becomes 0", c.sheet.passes(), 2);
        c.put("a0", "=\"\"");
        Check.same("blank becomes a text", c.sheet.passes(), 2);
        c.put("a0", "=A");
        Check.same("blank becomes an error", c.sheet.passes(), 2);
        c.put("a0", "=seq(2)");
        Check.same("blanks become an array", c.sheet.passes(), 2);
        c.put("b0", "=a1");
        Check.same("read in the second one", c.sheet.passes(), 3);
        // The array is as it was, but its cells are not: the second pass takes them away again.
        c.put("a0", "=if(a1=2,1,seq(2))");
        Check.same("never at rest", c.sheet.passes(), 40);
        c.holds("a0", "!c");
    }

    private static void fortyPasses() {
        Check.says("or 40 passes were made, it is over");
        Check c = new Check();
        c.put("a0", "=min(a0+1,38)");
        c.holds("a0", "38.0");
        Check.same("passes", c.sheet.passes(), 39);
        c.put("a0", "=min(a0+1,39)");
        c.holds("a0", "39.0");
        Check.same("passes", c.sheet.passes(), 40);
        Check.same("workedOut", c.sheet.workedOut(), 40);
        Check.says("If values changed in the 40th one, each formula whose result changed in it is the error 'c'");
        c.put("a0", "=min(a0+1,40)");
        c.holds("a0", "!c");
        Check.same("passes", c.sheet.passes(), 40);
        Check.same("kindByAll", c.sheet.kindByAll(0, 0), 'e');
        c.put("a0", "=a0+1");
        c.holds("a0", "!c");
        Check.same("passes", c.sheet.passes(), 40);
        Check.same("workedOut", c.sheet.workedOut(), 40);
    }

    private static void whoseResultChanged() {
        Check.says("each formula whose result changed in it is the error 'c' in its cell");
        Check c = new Check();
        c.put("a0", "=a0+1");
        c.put("b0", "=a0");
        c.put("c0", "=a0*0");
        c.put("d0", "=a0<50");
        c.put("e0", "=39<a0");
        c.put("f0", "=38<a0");
        c.put("a1", "=37<a0");
        c.put("b1", "=40<a0");
        // Each one reads what a0 was ahead of the pass: 39 in the 40th, 38 in the 39th.
        c.holds("a0", "f0", "!c !c 0.0 1.0 0.0 !c");
        c.holds("a1", "b1", "1.0 0.0");
        Check.same("errors", c.sheet.errors(), 3);
        c.put("b0", "=iferr(a0,7)");
        c.holds("b0", "!c");
        c.put("b0", "7");
        c.holds("a0", "b0", "!c 7.0");
    }

    private static void whatItHadPutDown() {
        Check.says("and what it had put down else is blank");
        Check c = new Check();
        c.put("a0", "=seq(2,2)+a1");
        c.put("c0", "=seq(2,2)");
        c.holds("a0", "d1", "!c  1.0 2.0/  3.0 4.0");
        Check.same("filledShare", c.sheet.filledShare(), 5 / 36f);
        c.put("a0", "=seq(2+(a0<a1))");
        c.holds("a0", "a2", "1.0/2.0/3.0");
        c.put("a0", "=seq(2+(a2=0))");
        c.holds("a0", "a2", "!c//");
    }

    private static void alikeInKind() {
        Check.says("Values are the same if they are alike in kind");
        Check c = new Check();
        c.put("a0", "=b0*1");
        c.put("c0", "=a0=\"\"");
        // Blank is equal to 0, but not the same: c0 is worked out again.
        c.holds("a0", "0.0");
        c.holds("c0", "0.0");
        Check.same("workedOut", c.sheet.workedOut(), 3);
        c.put("a0", "=\"\"");
        c.holds("c0", "1.0");
        Check.same("workedOut", c.sheet.workedOut(), 3);
        Check.same("passes", c.sheet.passes(), 2);
    }

    private static void equalNumbers() {
        Check.says("and equal numbers, texts or errors");
        Check c = new Check();
        c.put("a0", "-0");
        c.put("b0", "=1");
        c.put("c0", "=if(b0,a0,0)");
        c.put("d0", "=c0");
        // 0.0 and -0.0 are equal, so that nothing changes any more in the second pass but d0.
        Check.same("passes", c.sheet.passes(), 3);
        Check.same("workedOut", c.sheet.workedOut(), 3 + 2);
        Check.same("isSound", c.sheet.isSound(), true);
        c.put("c0", "=if(b0,\"x\",\"y\")");
        Check.same("another text", c.sheet.passes(), 4);
        c.holds("d0", "'x");
        c.put("c0", "=if(b0,\"x\",\"x\")");
        Check.same("an equal text", c.sheet.passes(), 3);
        c.put("c0", "=if(b0,1/0,A)");
        Check.same("another error", c.sheet.passes(), 4);
        c.holds("d0", "!d");
        c.put("c0", "=if(b0,A,B)");
        Check.same("an equal error", c.sheet.passes(), 3);
    }

    private static void whenItIsDue() {
        Check.says("The sheet is worked out when a value is asked, and something was entered, removed, and so on");
        Check c = new Check();
        c.put("a0", "=rows(b0:b3)+sub(c0:c3)");
        c.holds("a0", "4.0");
        c.put("c1", "10");
        c.holds("a0", "14.0");
        c.fill("c1", "c2");
        c.holds("a0", "24.0");
        c.sheet.hide(1, true);
        c.holds("a0", "14.0");
        c.sheet.hide(1, false);
        c.holds("a0", "24.0");
        c.sheet.insertRow(1, 3);
        c.holds("a0", "25.0");
        c.sheet.removeRow(1, 1);
        c.holds("a0", "14.0");
        c.sheet.undo(1);
        c.holds("a0", "25.0");
        c.put("d5", "-1");
        c.put("d0", "-5");
        c.sheet.sortRows(0, 3, 0, 6);
        // The row of d5 came between the corners of the ranges.
        c.holds("a0", "26.0");
        c.sheet.undo(0);
        c.holds("a0", "25.0");
        c.put("e0", "=A");
        c.holds("e0", "!n");
        c.name('A', "=7");
        c.holds("e0", "7.0");
        Check.same("numberByAll", c.sheet.numberByAll(0, 4), 7.0);
        c.name('A', "=8");
        Check.same("numberByAll", c.sheet.numberByAll(0, 4), 8.0);
    }

    private static void notDue() {
        Check.says("passes: which is done first if it is due");
        Check c = new Check();
        c.put("a0", "=1");
        c.put("b0", "=a0");
        Check.same("passes", c.sheet.passes(), 3);
        Check.same("passes again", c.sheet.passes(), 3);
        Check.same("workedOut", c.sheet.workedOut(), 3);
        Check.same("workedOut again", c.sheet.workedOut(), 3);
        c.sheet.isSound();
        c.sheet.kindByAll(0, 0);
        Check.same("passes", c.sheet.passes(), 3);
        Check.same("workedOut", c.sheet.workedOut(), 3);
        c.put("c0", "=b0");
        Check.same("workedOut first", c.sheet.workedOut(), 5);
        c.put("c0", "");
        Check.same("readers first", c.readers("b0"), 0);
        Check.same("passes", c.sheet.passes(), 3);
        c.type("=(");
        Check.refused("enter", () -> c.sheet.enter(0, 0, 0));
        Check.same("passes", c.sheet.passes(), 3);
    }

    private static void fromTheBeginning() {
        Check.says("Ahead of the first one, the value of each cell with a formula, and without a content, is blank.");
        Check c = new Check();
        c.put("a0", "=if(b0,max(a0,7),1)");
        c.put("b0", "1");
        c.holds("a0", "7.0");
        c.put("b0", "");
        c.holds("a0", "1.0");
        Check.same("passes", c.sheet.passes(), 2);
        c.put("c0", "=seq(2)");
        c.put("d0", "=if(c1=2,c1,0)");
        Check.same("passes", c.sheet.passes(), 3);
        c.put("b5", "9");
        Check.same("passes as from the beginning", c.sheet.passes(), 3);
        c.put("a0", "=a0+1");
        c.holds("a0", "!c");
        c.put("a0", "=iferr(a0,9)");
        c.holds("a0", "");
    }

    private static void kinds() {
        Check.says("Returns the kind of the value of a cell.");
        Check c = new Check();
        String[] contents = {"0", "x", "", "=1/0", "=0", "=\"\"", "=f5", "=A"};
        String due = "ntbentbe";
        for (int i = 0; i < contents.length; i++) {
            c.put("a0", contents[i]);
            Check.same("kindAt of " + contents[i], c.sheet.kindAt(0, 0), due.charAt(i));
            Check.same("kindByAll of " + contents[i], c.sheet.kindByAll(0, 0), due.charAt(i));
        }
        for (int place : BEYOND) {
            Check.outside("kindAt", () -> c.sheet.kindAt(place, 0));
            Check.outside("kindAt", () -> c.sheet.kindAt(0, place));
            Check.outside("kindByAll", () -> c.sheet.kindByAll(place, 0));
            Check.outside("kindByAll", () -> c.sheet.kindByAll(0, place));
        }
        Check.same("the last cell", c.sheet.kindAt(5, 5), 'b');
        Check.same("the last cell", c.sheet.kindByAll(5, 5), 'b');
    }

    /** A number, a text, an error, an empty text and nothing in a0 to a4. */
    private static Check mixed() {
        Check c = new Check();
        c.put("a0", "-2.5");
        c.put("a1", "xyz");
        c.put("a2", "=1/0");
        c.put("a3", "=\"\"");
        return c;
    }

    private static void numberAt() {
        Check.says("Throws NoSuchElementException if it is none");
        Check c = mixed();
        Check.same("numberAt", c.sheet.numberAt(0, 0), -2.5);
        Check.same("numberByAll", c.sheet.numberByAll(0, 0), -2.5);
        Check.same("bitsOf", c.sheet.bitsOf(0, 0), Double.doubleToLongBits(-2.5));
        for (int row = 1; row < 6; row++) {
            int at = row;
            c.throwingSame("numberAt", NoSuchElementException.class, () -> c.sheet.numberAt(at, 0));
            c.throwingSame("numberByAll", NoSuchElementException.class, () -> c.sheet.numberByAll(at, 0));
            c.throwingSame("bitsOf", NoSuchElementException.class, () -> c.sheet.bitsOf(at, 0));
        }
        for (int place : BEYOND) {
            Check.outside("numberAt", () -> c.sheet.numberAt(place, 0));
            Check.outside("numberAt", () -> c.sheet.numberAt(0, place));
            Check.outside("numberByAll", () -> c.sheet.numberByAll(place, 0));
            Check.outside("numberByAll", () -> c.sheet.numberByAll(0, place));
            Check.outside("bitsOf", () -> c.sheet.bitsOf(place, 0));
            Check.outside("bitsOf", () -> c.sheet.bitsOf(0, place));
        }
    }

    private static void errorAt() {
        Check.says("Returns the error that is the value of a cell.");
        Check c = mixed();
        Check.same("errorAt", c.sheet.errorAt(2, 0), 'd');
        for (int row : new int[] {0, 1, 3, 4, 5}) {
            c.throwingSame("errorAt", NoSuchElementException.class, () -> c.sheet.errorAt(row, 0));
        }
        for (int place : BEYOND) {
            Check.outside("errorAt", () -> c.sheet.errorAt(place, 0));
            Check.outside("errorAt", () -> c.sheet.errorAt(0, place));
        }
    }

    private static void eachError() {
        Check.says("The errors are");
        Check c = new Check();
        c.put("a0", "=1/0");
        c.put("a1", "=sum(seq(61))");
        c.put("a2", "=-\"x\"");
        c.put("a3", "=f5");
        c.put("a4", "=A");
        c.put("a5", "=match(1,2)");
        c.put("b0", "=seq(7)");
        c.put("b1", "=b1+1");
        c.sheet.removeColumn(0, 5);
        String due = "dovrnasc";
        for (int i = 0; i < due.length(); i++) {
            Check.same("errorAt " + i, c.sheet.errorAt(i % 6, i / 6), due.charAt(i));
        }
        Check.same("errors", c.sheet.errors(), 8);
    }

    private static void textLength() {
        Check.says("Returns the length of the text that is the value of a cell.");
        Check c = mixed();
        Check.same("textLength", c.sheet.textLength(1, 0), 3);
        Check.same("of the empty text", c.sheet.textLength(3, 0), 0);
        c.put("b0", "abcdefghijklmnopqrstuvwxyzabcdefghijklmn");
        Check.same("of 40", c.sheet.textLength(0, 1), 40);
        for (int row : new int[] {0, 2, 4, 5}) {
            c.throwingSame("textLength", NoSuchElementException.class, () -> c.sheet.textLength(row, 0));
        }
        for (int place : BEYOND) {
            Check.outside("textLength", () -> c.sheet.textLength(place, 0));
            Check.outside("textLength", () -> c.sheet.textLength(0, place));
        }
    }

    private static void textAt() {
        Check.says("Throws NoSuchElementException if it is none, or there is no such character");
        Check c = mixed();
        Check.same("the first one", c.sheet.textAt(1, 0, 0), 'x');
        Check.same("the last one", c.sheet.textAt(1, 0, 2), 'z');
        for (int index : new int[] {-1, 3, 4, Integer.MIN_VALUE, Integer.MAX_VALUE}) {
            c.throwingSame("textAt " + index, NoSuchElementException.class, () -> c.sheet.textAt(1, 0, index));
        }
        for (int row : new int[] {0, 2, 3, 4, 5}) {
            c.throwingSame("textAt", NoSuchElementException.class, () -> c.sheet.textAt(row, 0, 0));
        }
        for (int place : BEYOND) {
            Check.outside("textAt", () -> c.sheet.textAt(place, 0, 0));
            Check.outside("textAt", () -> c.sheet.textAt(0, place, -1));
        }
    }

    private static void byAll() {
        Check.says("found by working out all formulas in each pass");
        Check c = new Check();
        c.put("a0", "=1");
        c.put("a1", "=a0+1");
        c.put("b0", "=seq(2,2)+a1");
        c.put("d0", "=d0+1");
        c.put("e0", "=min(e0+1,39)");
        Check.same("numberByAll", c.sheet.numberByAll(1, 0), 2.0);
        Check.same("numberByAll", c.sheet.numberByAll(1, 2), 6.0);
        Check.same("kindByAll", c.sheet.kindByAll(0, 3), 'e');
        Check.same("numberByAll", c.sheet.numberByAll(0, 4), 39.0);
        c.put("a0", "=5");
        Check.same("numberByAll", c.sheet.numberByAll(1, 2), 10.0);
        c.sheet.undo(0);
        Check.same("numberByAll", c.sheet.numberByAll(1, 2), 6.0);
    }

    private static void spillOf() {
        Check.says("Returns 10 times the place of the row plus that of the column; of its own cell, this one.");
        Check c = new Check().grow();
        c.put("a0", "=seq(1,2)");
        Check.same("of its own cell", c.sheet.spillOf(0, 0), 0);
        Check.same("beside it", c.sheet.spillOf(0, 1), 0);
        c.put("g8", "=seq(2,2)");
        for (int i = 0; i < 4; i++) {
            Check.same("in the corner", c.sheet.spillOf(8 + i / 2, 6 + i % 2), 86);
        }
        c.put("h0", "=seq(3)");
        Check.same("the last column", c.sheet.spillOf(2, 7), 7);
        c.put("a9", "=seq(1,3)");
        Check.same("the last row", c.sheet.spillOf(9, 2), 90);
        c.put("b3", "=f3:f4");
        Check.same("of blanks", c.sheet.spillOf(4, 1), 31);
        c.put("b6", "=trans(A+seq(2))");
        Check.same("of errors", c.sheet.spillOf(6, 2), 61);
    }

    private static void spillOfNone() {
        Check.says("Throws NoSuchElementException if no array was");
        Check c = new Check();
        c.put("a0", "5");
        c.put("b0", "=5");
        c.put("c0", "=seq(1)");
        c.put("d0", "=seq(2)");
        c.put("d1", "x");
        c.put("e0", "=seq(2)");
        for (int column : new int[] {0, 1, 2, 3, 5}) {
            c.throwingSame("spillOf", NoSuchElementException.class, () -> c.sheet.spillOf(0, column));
        }
        c.throwingSame("spillOf below", NoSuchElementException.class, () -> c.sheet.spillOf(2, 4));
        c.throwingSame("spillOf what blocks", NoSuchElementException.class, () -> c.sheet.spillOf(1, 3));
        Check.same("spillOf", c.sheet.spillOf(1, 4), 4);
        c.put("e0", "");
        c.throwingSame("spillOf what was", NoSuchElementException.class, () -> c.sheet.spillOf(1, 4));
        for (int place : BEYOND) {
            Check.outside("spillOf", () -> c.sheet.spillOf(place, 0));
            Check.outside("spillOf", () -> c.sheet.spillOf(0, place));
        }
    }

    private static void passesAndWork() {
        Check.says("how many formulas were worked out then, each as often as it was");
        Check c = new Check();
        for (int i = 0; i < 6; i++) {
            c.put("a" + i, "=f0");
        }
        Check.same("each once", c.sheet.workedOut(), 6);
        Check.same("passes", c.sheet.passes(), 1);
        c.put("f0", "=1");
        Check.same("all but one twice", c.sheet.workedOut(), 13);
        Check.same("passes", c.sheet.passes(), 3);
        c.put("f0", "1");
        Check.same("a number is there ahead of the first pass", c.sheet.workedOut(), 6);
        Check.same("passes", c.sheet.passes(), 2);
        c.put("f1", "=f1+1");
        Check.same("one forty times", c.sheet.workedOut(), 46);
    }

    private static void readersOfACell() {
        Check.says("Returns how many formulas read a cell when they were worked out last.");
        Check c = new Check();
        Check.same("none", c.readers("a0"), 0);
        c.put("b0", "=a0");
        c.put("b1", "=a0+a0+a0");
        c.put("b2", "=sum(a0:a5)");
        c.put("b3", "=a1:a2");
        c.put("b4", "=b4");
        Check.same("three", c.readers("a0"), 3);
        Check.same("the corners of ranges", c.readers("a1"), 2);
        Check.same("the corners of ranges", c.readers("a2"), 2);
        Check.same("the last one of a range", c.readers("a5"), 1);
        Check.same("itself", c.readers("b4"), 1);
        c.put("b1", "");
        Check.same("two", c.readers("a0"), 2);
        c.sheet.removeColumn(1, 0);
        for (int row = 0; row < 6; row++) {
            Check.same("none of what is gone", c.sheet.readers(row, 0), row == 4 ? 1 : 0);
        }
        for (int place : BEYOND) {
            Check.outside("readers", () -> c.sheet.readers(place, 0));
            Check.outside("readers", () -> c.sheet.readers(0, place));
        }
    }

    private static void errorsOfCells() {
        Check.says("Returns how many cells have errors as values.");
        Check c = new Check();
        Check.same("none", c.sheet.errors(), 0);
        c.put("a0", "=seq(6,6)/0");
        Check.same("all", c.sheet.errors(), 36);
        c.put("a0", "=1/(seq(6,6)-1)");
        Check.same("one", c.sheet.errors(), 1);
        c.put("a0", "x");
        Check.same("none", c.sheet.errors(), 0);
        Check d = new Check().grow();
        d.put("h9", "=1/0");
        d.put("a0", "=A");
        Check.same("the first cell and the last one", d.sheet.errors(), 2);
        d.sheet.removeRow(0, 9);
        Check.same("the first cell", d.sheet.errors(), 1);
    }

    private static void bitsOfNumbers() {
        Check.says("Returns the bits of a number, as Double.doubleToLongBits tells them.");
        Check c = new Check();
        String[] numbers = {"0", "-0", "1", "-1", "2", "0.5", "0.0001", "-0.3", "999999999.9999", "-999999999", "3", "0.75"};
        for (String number : numbers) {
            c.put("a0", number);
            Check.same("bits of " + number, c.sheet.bitsOf(0, 0), Double.doubleToLongBits(Double.parseDouble(number)));
        }
        Check.same("bits of 0", bits("=1-1"), 0L);
        c.put("a0", "=0.0001*0.0001*0.0001*0.0001*0.0001");
        c.put("a1", "=a0*a0*a0*a0*a0*a0*a0*a0");
        c.put("a2", "=a1*a1");
        double small = 0.0001 * 0.0001 * 0.0001 * 0.0001 * 0.0001;
        double smaller = small * small * small * small * small * small * small * small;
        Check.same("a small number", c.sheet.bitsOf(1, 0), Double.doubleToLongBits(smaller));
        Check.same("nothing is left", c.sheet.bitsOf(2, 0), Double.doubleToLongBits(smaller * smaller));
        c.put("a2", "=a1*a0*a0*a0*a0*a0*a0*a0");
        smaller = smaller * small * small * small * small * small * small * small;
        Check.same("near the least one", c.sheet.bitsOf(2, 0), Double.doubleToLongBits(smaller));
        for (String factor : new String[] {"0.0001", "0.0000", "0.0017", "0.0223", "0.1", "9.5"}) {
            c.put("a3", "=-a2*0.0001*0.0001*" + factor);
            double number = -smaller * 0.0001 * 0.0001 * Double.parseDouble(factor) + 0.0;
            Check.same("below it by " + factor, c.sheet.bitsOf(3, 0), Double.doubleToLongBits(number));
        }
    }

    private static long bits(String formula) {
        Check c = new Check();
        c.put("a0", formula);
        return c.sheet.bitsOf(0, 0);
    }

    private static void filledShare() {
        Check.says("Returns their number divided by that of all cells, both converted to float.");
        Check c = new Check();
        Check.same("none", c.sheet.filledShare(), 0.0f);
        c.put("a0", "5");
        Check.same("one", c.sheet.filledShare(), 1 / 36f);
        c.put("a0", "=f5");
        Check.same("a blank value", c.sheet.filledShare(), 0.0f);
        c.put("a0", "=\"\"");
        Check.same("an empty text", c.sheet.filledShare(), 1 / 36f);
        c.put("a0", "=A");
        Check.same("an error", c.sheet.filledShare(), 1 / 36f);
        c.put("a0", "=seq(6,6)");
        Check.same("all", c.sheet.filledShare(), 1.0f);
        c.put("a0", "=seq(5,5)");
        c.sheet.insertRow(0, 6);
        c.sheet.insertColumn(0, 6);
        Check.same("25 of 49", c.sheet.filledShare(), 25 / 49f);
        c.shrink();
        Check.same("one of one", c.sheet.filledShare(), 1.0f);
        c.put("a0", "");
        Check.same("none of one", c.sheet.filledShare(), 0.0f);
        c.grow();
        c.put("h9", "x");
        Check.same("one of 80", c.sheet.filledShare(), 1 / 80f);
    }

    private static void isSound() {
        Check.says("Tells whether both ways of working out give the same values.");
        Check c = new Check();
        Check.same("of nothing", c.sheet.isSound(), true);
        String[] formulas = {"=a0+1", "=if(b0<5,b0+1,c0)", "=seq(2,2)+a0", "=iferr(1/(d0-3),d0+1)", "=sum(a0:d0)", "=sub(a0:e0)"};
        for (int i = 0; i < formulas.length; i++) {
            c.sheet.erase();
            c.type(formulas[i]);
            c.sheet.enter(0, 0, i);
            Check.same("with " + formulas[i], c.sheet.isSound(), true);
        }
        c.sheet.hide(0, true);
        Check.same("hidden", c.sheet.isSound(), true);
        c.sheet.removeColumn(0, 0);
        Check.same("with what is gone", c.sheet.isSound(), true);
    }
}
