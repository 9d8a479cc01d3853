import java.util.NoSuchElementException;

/** Each sentence of "Formulas" and "References", and of promises 6, 28, 29 and 30, that names a boundary. */
public final class FormulaBoundsTest {
    public static void main(String[] args) {
        withoutBlanks();
        oneOrTwoSums();
        productsFromTheLeft();
        signedThingsFromTheLeft();
        signs();
        percents();
        numbersInFormulas();
        textsInFormulas();
        names();
        functions();
        parentheses();
        references();
        beyondTheSheet();
        tenDeep();
        tenDeepInNames();
        whereverTheyGo();
        goneIsAnError();
        readByThis();
        eachCellIsRead();
        fromTheLesserToTheGreater();
        rangesOfOneCell();
        goneRanges();
        nothingIsReadThen();
        partsWithoutDollars();
        goneFromTheBeginning();
        goesOnToMeanThis();
        fillCounts();
        fillTakesEachContent();
        fillThrows();
        contentAt();
        write();
        writeThrows();
        writtenAt();
        Check.end();
    }

    private static void reads(String... formulas) {
        Check c = new Check();
        for (String formula : formulas) {
            Check.same(formula, c.put("d3", formula), 'f');
        }
    }

    private static void refuses(String... formulas) {
        Check c = new Check();
        for (String formula : formulas) {
            c.refuses("d3", formula);
        }
        Check.same("nothing entered", c.sheet.contentAt(3, 3), 'b');
        Check.same("nothing kept", c.sheet.kept(0), 0);
    }

    private static void withoutBlanks() {
        Check.says("Behind '=', there is an expression without blanks");
        refuses("=", "= 1", "=1 ", "=1 +2", "=1+ 2", "=sum( 1)", "=sum(1, 2)", "=a 0", "=a0 :b1", "=- 1", "=1 %");
        reads("=1+2");
        new Check().gives("=\"a b \"", "'a b ");
    }

    private static void oneOrTwoSums() {
        Check.says("a sum, or two sums with '<' or '=' between them");
        reads("=1", "=1<2", "=1=2", "=1+1<2-1", "=(1<2)<3", "=1=(2=3)");
        refuses("=1<2<3", "=1=2=3", "=1<2=3", "=1<", "=<1", "=1=", "=1<=2", "=1<>2", "=1>2", "=1==2");
    }

    private static void productsFromTheLeft() {
        Check.says("a sum is products with '+' or '-' between them, from the left");
        Check c = new Check();
        c.gives("=1", "1.0");
        c.gives("=9-4-3", "2.0");
        c.gives("=9-4+3", "8.0");
        c.gives("=9+4-3+1-2", "9.0");
        c.gives("=9-2*3", "3.0");
        refuses("=1+", "=+1", "=1++1", "=1-", "=1-+1");
        c.put("a0", "=1-2-3");
        c.writes("a0", "=(1-2)-3");
    }

    private static void signedThingsFromTheLeft() {
        Check.says("a product is signed things with '*' or '/' between them, from the left");
        Check c = new Check();
        c.gives("=24/4/3", "2.0");
        c.gives("=24/4*3", "18.0");
        c.gives("=2*-3", "-6.0");
        c.gives("=6/-3", "-2.0");
        refuses("=1*", "=*1", "=1**2", "=1*/2", "=1//2", "=/1");
        c.put("a0", "=1/2/3");
        c.writes("a0", "=(1/2)/3");
    }

    private static void signs() {
        Check.says("a signed thing is '-' and a signed thing");
        Check c = new Check();
        c.gives("=-3", "-3.0");
        c.gives("=--3", "3.0");
        c.gives("=---3", "-3.0");
        c.gives("=2--3", "5.0");
        c.gives("=-2-3", "-5.0");
        c.gives("=-2*3", "-6.0");
        refuses("=-", "=--", "=1-*2");
    }

    private static void percents() {
        Check.says("a thing with '%' behind it as often as one likes");
        Check c = new Check();
        c.gives("=300", "300.0");
        c.gives("=300%", "3.0");
        c.gives("=300%%", "0.03");
        c.gives("=-300%", "-3.0");
        c.gives("=(100+200)%", "3.0");
        c.gives("=2*300%", "6.0");
        reads("=1%%%%%%%%%");
        refuses("=%", "=%1", "=1%1", "=1+%");
    }

    private static void numbersInFormulas() {
        Check.says("a number as above, but without '-'");
        Check c = new Check();
        c.gives("=0", "0.0");
        c.gives("=999999999-0", "9.99999999E8");
        c.gives("=000000007", "7.0");
        c.gives("=1.5", "1.5");
        c.gives("=0.1234", "0.1234");
        refuses("=1234567890", "=0000000000", "=1.", "=.5", "=1.12345", "=1.2.3", "=1..2", "=1.%", "=1e5", "=1234567890.1");
    }

    private static void textsInFormulas() {
        Check.says("a text in '\"'");
        Check c = new Check();
        c.gives("=\"\"", "'");
        c.gives("=\"x\"", "'x");
        c.gives("=\"=-1)\"", "'=-1)");
        c.gives("=\"abcdefghijklmnopqrstuvwxyzabcdefghijk\"", "'abcdefghijklmnopqrstuvwxyzabcdefghijk");
        refuses("=\"", "=\"x", "=x\"", "=\"x\"y", "=\"x\"\"y\"", "='x'");
    }

    private static void names() {
        Check.says("a name, a letter from 'A' to 'F'");
        reads("=A", "=F", "=A+B*C", "=-D", "=E%");
        refuses("=G", "=@", "=Z", "=AB", "=A0", "=0A", "=A(1)", "=$A");
    }

    private static void functions() {
        Check.says("a function, in small letters, with '(', one or more expressions with ',' between them, and ')'");
        reads("=sum(1)", "=sum(1,2)", "=x(1)", "=zzzzzzzz(1)", "=sum(1,2,3,4,5,6,7,8,9,1,2,3,4,5,6,7,80)",
                "=sum(1<2,-3)", "=a(a0)", "=h(1)");
        refuses("=sum()", "=sum", "=sum(", "=sum(1", "=sum(1,", "=sum(1,)", "=sum(,1)", "=sum(1,,2)", "=sum(1;2)",
                "=Sum(1)", "=suM(1)", "=sum1(1)", "=sum$(1)", "=sum(1))", "=(1,2)", "=1,2", "=$sum(1)", "=sum(1)(1)");
    }

    private static void parentheses() {
        Check.says("an expression in '(' and ')'");
        reads("=(1)", "=((1))", "=(1<2)", "=(((((((((((((((((((1)))))))))))))))))))", "=(a0:b1)");
        refuses("=()", "=(", "=)", "=(1", "=1)", "=((1)", "=(1))", "=(a0):b1", "=a0:(b1)", "=(1)(2)", "=(1)2");
    }

    private static void references() {
        Check.says("A reference is a letter and a digit, each perhaps with '$' ahead.");
        reads("=a0", "=$a0", "=a$0", "=$a$0", "=a0:b1", "=$a$0:$b$1", "=a$0:$b1", "=b1:a0", "=a0:a0");
        refuses("=a", "=0a", "=$", "=$a", "=a$", "=$$a0", "=a$$0", "=a0$", "=$0", "=a00", "=aa0", "=A0", "=a0:", "=:a0",
                "=a0:b", "=a0:1", "=a0:A", "=a0:b1:c2", "=a0::b1", "=a0b1", "=a-0");
    }

    private static void beyondTheSheet() {
        Check.says("has a letter or a digit beyond the sheet, is refused");
        reads("=f0", "=a5", "=f5", "=a0:f5");
        refuses("=g0", "=a6", "=g6", "=h5", "=f9", "=i0", "=z0", "=a0:g0", "=a0:a6", "=g0:a0", "=$g0", "=a$6",
                "=if(1,2,g0)", "=sum(1)+a6");
        Check c = new Check();
        c.sheet.insertColumn(0, 0);
        Check.same("a column more", c.put("a0", "=g0"), 'f');
        c.refuses("a0", "=a6");
        c.refuses("a0", "=h0");
        c.shrink();
        Check.same("the one cell", c.put("a0", "=a0"), 'f');
        c.refuses("a0", "=b0");
        c.refuses("a0", "=a1");
        c.refuses("a0", "=a0:a1");
    }

    private static void tenDeep() {
        Check.says("refused; so is a formula that is more than 10 deep");
        reads("=---------1", "=1%%%%%%%%%", "=1+1+1+1+1+1+1+1+1+1", "=1*1*1*1*1*1*1*1*1*1", "=----1%%%%%",
                "=1-(1-(1-(1-(1-(1-(1-(1-(1-1))))))))", "=x(x(x(x(x(x(x(x(x(1)))))))))", "=1<1+1+1+1+1+1+1+1+1");
        refuses("=----------1", "=1%%%%%%%%%%", "=1+1+1+1+1+1+1+1+1+1+1", "=1*1*1*1*1*1*1*1*1*1*1", "=-----1%%%%%",
                "=1-(1-(1-(1-(1-(1-(1-(1-(1-(1-1)))))))))", "=x(x(x(x(x(x(x(x(x(x(1))))))))))",
                "=1<1+1+1+1+1+1+1+1+1+1", "=1+----------1", "=x(1,2,----------1)");
        Check.says("where each thing is 1 deep, and all else 1 more than its deepest part");
        reads("=---------A", "=---------a0", "=---------\"x\"", "=---------(a0:b1)", "=--------x(1,2,3,4,5,6,7,8,9,1,2)",
                "=1+1*1+1*1+1*1+1*1+1*1+1*1+1*1+1");
        refuses("=----------A", "=----------a0", "=----------\"x\"", "=----------(a0:b1)", "=---------x(1)");
        Check.says("but '(' and ')' nothing");
        reads("=(((((((((((((((((((1)))))))))))))))))))", "=-(-(-(-(-(-(-(-(-(1)))))))))", "=((((((1%%%%%%%%%))))))");
        refuses("=-(-(-(-(-(-(-(-(-(-(1))))))))))");
    }

    private static void tenDeepInNames() {
        Check.says("so is a formula that is more than 10 deep");
        Check c = new Check();
        Check.same("define", c.name('A', "=---------1"), 1);
        c.type("=----------1");
        c.throwingSame("define", UnsupportedOperationException.class, () -> c.sheet.define('A'));
        c.gives("=---------A", "1.0");
    }

    private static void whereverTheyGo() {
        Check.says("A reference means a row and a column, those that had these places when it was read, and goes on");
        Check c = new Check();
        c.put("b1", "7");
        c.put("f5", "=b1+b$1+$b1+$b$1");
        c.holds("f5", "28.0");
        c.sheet.insertRow(0, 0);
        c.sheet.insertColumn(0, 1);
        c.writes("g6", "=((c2+c$2)+$c2)+$c$2");
        c.put("c1", "9");
        c.sheet.sortRows(0, 2, 1, 2);
        c.writes("g6", "=((c1+c$1)+$c1)+$c$1");
        c.sheet.removeRow(0, 0);
        c.sheet.removeColumn(0, 0);
        c.writes("f5", "=((b0+b$0)+$b0)+$b$0");
        c.holds("f5", "28.0");
    }

    private static void goneIsAnError() {
        Check.says("if one of them is gone, it is the error 'r'");
        Check c = new Check();
        c.put("a0", "=b2");
        c.put("a1", "=c1");
        c.sheet.removeRow(1, 2);
        c.holds("a0", "a1", "!r/");
        c.sheet.insertRow(2, 2);
        c.holds("a0", "!r");
        c.sheet.removeColumn(2, 2);
        c.holds("a0", "a1", "!r/!r");
        c.writes("a0", "=#");
        c.writes("a1", "=#");
    }

    private static void readByThis() {
        Check.says("A reference is worked out as the value of its cell, which is read by this.");
        Check c = new Check();
        c.put("a0", "=b0");
        c.holds("a0", "");
        Check.same("readers", c.readers("b0"), 1);
        Check.same("readers of itself", c.readers("a0"), 0);
        c.put("b0", "x");
        c.holds("a0", "'x");
        c.put("b0", "=1/0");
        c.holds("a0", "!d");
        c.put("b0", "=seq(2)");
        c.holds("a0", "1.0");
        c.put("a1", "=b1");
        c.holds("a1", "2.0");
        Check.same("readers", c.readers("b1"), 1);
    }

    private static void eachCellIsRead() {
        Check.says("A reference is worked out as the value of its cell, which is read by this.");
        for (int column = 0; column < 8; column++) {
            Check c = new Check().grow();
            String reader = column == 0 ? "b5" : "a5";
            for (int row = 0; row < 10; row++) {
                String cell = "" + (char) ('a' + column) + row;
                c.put(cell, "=" + row + "+1");
                c.put(reader, "=" + cell);
                c.holds(reader, (row + 1) + ".0");
                Check.same("readers of " + cell, c.readers(cell), 1);
                Check.same("passes", c.sheet.passes(), 3);
            }
        }
    }

    private static void fromTheLesserToTheGreater() {
        Check.says("all cells from the lesser to the greater place of both of its rows, and of its columns");
        Check c = new Check();
        for (int i = 0; i < 4; i++) {
            c.put("" + (char) ('a' + i % 2) + i / 2, "" + (i + 1));
        }
        for (String range : new String[] {"a0:b1", "b1:a0", "a1:b0", "b0:a1"}) {
            c.put("c3", "=" + range);
            c.holds("c3", "d4", "1.0 2.0/3.0 4.0");
            Check.same("a corner is read by " + range, c.readers("a0"), 1);
            Check.same("a corner is read by " + range, c.readers("b1"), 1);
            Check.same("beside it", c.readers("c0"), 0);
            Check.same("below it", c.readers("a2"), 0);
        }
        c.put("c3", "=a0:b1");
        c.put("f0", "2");
        c.put("f1", "1");
        c.sheet.sortRows(0, 5, 0, 1);
        c.writes("c3", "=a1:b0");
        c.holds("c3", "d4", "3.0 4.0/1.0 2.0");
    }

    private static void rangesOfOneCell() {
        Check.says("an array of one is the thing in it");
        Check c = new Check();
        c.put("a0", "x");
        c.gives("=a0:a0", "'x");
        c.gives("=b0:b0", "");
        c.gives("=if(b0:b0,1,2)", "2.0");
        c.put("c0", "=a0:a0");
        Check.same("spillOf", c.spill("c0"), -1);
        c.put("c0", "=seq(1)");
        Check.same("spillOf", c.spill("c0"), -1);
        c.put("c0", "=filter(seq(2),seq(2)=2)");
        c.holds("c0", "2.0");
        Check.same("spillOf", c.spill("c0"), -1);
        c.put("c0", "=seq(2)");
        Check.same("spillOf two", c.spill("c0"), 2);
    }

    private static void goneRanges() {
        Check.says("it is the error 'r' if one of its four is gone");
        for (int place : new int[] {1, 3}) {
            Check c = new Check();
            c.put("f5", "=sum(b1:d3)");
            c.sheet.removeRow(0, place);
            c.holds("f4", "!r");
            c.writes("f4", "=sum(#)");
            c.sheet.undo(0);
            c.holds("f5", "0.0");
            c.sheet.removeColumn(0, place);
            c.holds("e5", "!r");
            c.writes("e5", "=sum(#)");
        }
        Check c = new Check();
        c.put("f5", "=rows(b1:d3)+cols(b1:d3)");
        c.sheet.removeRow(0, 2);
        c.sheet.removeColumn(0, 2);
        c.holds("e4", "4.0");
    }

    private static void nothingIsReadThen() {
        Check.says("nothing is read then");
        Check c = new Check();
        c.put("f5", "=iferr(sum(a0:b1),0)");
        Check.same("readers", c.readers("a0"), 1);
        c.sheet.removeRow(0, 1);
        Check.same("readers", c.readers("a0"), 0);
        Check.same("readers", c.readers("b0"), 0);
        c.holds("f4", "0.0");
        c.sheet.undo(0);
        Check.same("readers", c.readers("b1"), 1);
    }

    private static void partsWithoutDollars() {
        Check.says("each part of a reference without '$' comes to mean the row or column that is as far");
        Check c = new Check();
        c.put("b2", "=b2+$b2+b$2+$b$2");
        c.fill("b2", "b2");
        c.writes("b2", "=((b2+$b2)+b$2)+$b$2");
        c.fill("b2", "d5");
        c.writes("d5", "=((d5+$b5)+d$2)+$b$2");
        c.fill("b2", "a0");
        c.writes("a0", "=((a0+$b0)+a$2)+$b$2");
        c.put("b2", "=sum(b2:$c$3)");
        c.fill("b2", "f5");
        c.writes("f5", "=sum(f5:$c$3)");
        c.sheet.insertRow(0, 0);
        c.writes("f6", "=sum(f6:$c$4)");
        c.writes("a1", "=((a1+$b1)+a$3)+$b$3");
        c.sheet.insertColumn(0, 0);
        c.writes("g6", "=sum(g6:$d$4)");
        c.writes("b1", "=((b1+$c1)+b$3)+$c$3");
        c.sheet.undo(0);
        c.sheet.undo(0);
        // As far from where it is now, not from where it was when it was read.
        c.put("c0", "=a0");
        c.sheet.insertColumn(0, 1);
        c.writes("d0", "=a0");
        c.fill("d0", "e1");
        c.writes("e1", "=b1");
    }

    private static void goneFromTheBeginning() {
        Check.says("one that there is not is gone from the beginning");
        Check c = new Check();
        c.put("c2", "=a0");
        Check.same("the first one that there is", c.fill("c2", "d3"), 0);
        Check.same("above", c.fill("c2", "c1"), 1);
        Check.same("to the left", c.fill("c2", "b2"), 1);
        Check.same("both", c.fill("c2", "b1"), 1);
        c.put("c2", "=f5");
        Check.same("itself", c.fill("c2", "c2"), 0);
        Check.same("below", c.fill("c2", "c3"), 1);
        Check.same("to the right", c.fill("c2", "d2"), 1);
        c.sheet.insertRow(0, 6);
        c.sheet.insertColumn(0, 6);
        for (String cell : new String[] {"b1", "c1", "b2", "c3", "d2"}) {
            c.writes(cell, "=#");
            c.holds(cell, "!r");
        }
        Check.same("there now", c.fill("c2", "d3"), 0);
        c.writes("d3", "=g6");
        c.put("c2", "=$f$5");
        Check.same("'$' keeps it", c.fill("c2", "g6"), 0);
        c.writes("g6", "=$f$5");
    }

    private static void goesOnToMeanThis() {
        Check.says("a part that means something gone goes on to mean this");
        Check c = new Check();
        c.put("a0", "5");
        c.put("a1", "=a0");
        c.put("b1", "=b0+a0");
        c.sheet.removeRow(1, 0);
        Check.same("fill", c.fill("a0", "c3"), 1);
        Check.same("fill of two", c.fill("b0", "d3"), 2);
        c.sheet.undo(1);
        // Its column came to be another one, but its row is the one that was gone.
        c.writes("c4", "=c0");
        c.writes("d4", "=d0+c0");
    }

    private static void fillCounts() {
        Check.says("Returns how many references in it there mean something that is gone.");
        Check c = new Check();
        c.put("c2", "=1");
        Check.same("without references", c.fill("c2", "d2"), 0);
        c.put("c2", "x");
        Check.same("of a text", c.fill("c2", "d2"), 0);
        c.put("c2", "=c1+c1+c2");
        Check.same("each one", c.fill("c2", "c0"), 2);
        Check.same("none", c.fill("c2", "c1"), 0);
        Check.same("two of the copy", c.fill("c0", "c5"), 2);
        c.put("c2", "=if(1,sum(a2,a2),a2)");
        Check.same("all three", c.fill("c2", "b2"), 3);
    }

    private static void fillTakesEachContent() {
        Check.says("Copies the content of a cell to another one.");
        Check c = new Check();
        c.put("a0", "-1.5");
        c.put("a1", "x");
        c.put("a2", "=a1");
        c.fill("a0", "f0");
        c.fill("a1", "f1");
        c.fill("a2", "f2");
        c.holds("f0", "f2", "-1.5/'x/'x");
        Check.same("contentAt", c.sheet.contentAt(0, 5), 'n');
        Check.same("contentAt", c.sheet.contentAt(1, 5), 't');
        Check.same("contentAt", c.sheet.contentAt(2, 5), 'f');
        c.put("a0", "2");
        c.holds("f0", "-1.5");
        Check.same("kept", c.sheet.kept(0), 7);
        c.put("a0", "=if(1=1,\"yes\",-0.50%*A)");
        c.fill("a0", "b5");
        c.holds("b5", "'yes");
        c.writes("b5", "=if((1=1),\"yes\",(-0.50%*A))");
        c.put("a0", "=sub(b0:b1)+12");
        c.fill("a0", "b5");
        c.holds("b5", "!r");
        c.fill("a0", "b4");
        c.holds("b4", "12.0");
    }

    private static void fillThrows() {
        Check.says("fill throws");
        Check c = new Check();
        c.put("a0", "5");
        c.put("b0", "=seq(2,2)");
        c.throwingSame("hand", IllegalArgumentException.class, () -> c.sheet.fill(3, 6, 6, 6, 6));
        c.throwingSame("hand", IllegalArgumentException.class, () -> c.sheet.fill(-1, 3, 3, 0, 0));
        for (int place : new int[] {-1, 6, Integer.MIN_VALUE, Integer.MAX_VALUE}) {
            c.throwingSame("row", IndexOutOfBoundsException.class, () -> c.sheet.fill(0, place, 0, 1, 1));
            c.throwingSame("column", IndexOutOfBoundsException.class, () -> c.sheet.fill(0, 0, place, 1, 1));
            c.throwingSame("other row", IndexOutOfBoundsException.class, () -> c.sheet.fill(0, 0, 0, place, 1));
            c.throwingSame("other column", IndexOutOfBoundsException.class, () -> c.sheet.fill(0, 0, 0, 1, place));
        }
        c.throwingSame("nothing, and nowhere", IndexOutOfBoundsException.class, () -> c.sheet.fill(0, 5, 5, 6, 0));
        c.throwingSame("nothing", NoSuchElementException.class, () -> c.sheet.fill(0, 5, 5, 0, 0));
        c.throwingSame("a value alone", NoSuchElementException.class, () -> c.sheet.fill(0, 1, 2, 5, 5));
        Check.same("the last cell", c.fill("a0", "f5"), 0);
    }

    private static void contentAt() {
        Check.says("Returns what the content of a cell is.");
        Check c = new Check();
        c.put("a0", "=b5");
        c.put("b0", "=1");
        c.put("c0", "=\"x\"");
        c.put("d0", "=seq(1,2)");
        c.put("a1", "0");
        c.put("b1", " ");
        String due = "ffffbbntbbbb";
        for (int i = 0; i < due.length(); i++) {
            Check.same("contentAt " + i, c.sheet.contentAt(i / 6, i % 6), due.charAt(i));
        }
        for (int place : new int[] {-1, 6, Integer.MIN_VALUE, Integer.MAX_VALUE}) {
            Check.outside("contentAt", () -> c.sheet.contentAt(place, 0));
            Check.outside("contentAt", () -> c.sheet.contentAt(0, place));
        }
    }

    private static void write() {
        Check.says("what has two parts stands in \"(\" and \")\", but not the whole");
        Check c = new Check();
        String[] pairs = {"=1", "=1", "=1+2", "=1+2", "=(1+2)", "=1+2", "=-(1+2)", "=-(1+2)", "=(1<2)%", "=(1<2)%",
            "=sum(1+2)", "=sum((1+2))", "=1+2*3<4", "=(1+(2*3))<4", "=-(a0)", "=-a0", "=(-1)%", "=-1%", "=-1%", "=-1%",
            "=2-(-1)", "=2--1", "=if(1,seq(2,3))+1", "=if(1,seq(2,3))+1", "=((a0:b1))", "=a0:b1", "=(A)+(\"\")", "=A+\"\""};
        for (int i = 0; i < pairs.length; i += 2) {
            c.put("f5", pairs[i]);
            c.writes("f5", pairs[i + 1]);
        }
        Check.says("numbers as they were typed");
        for (String number : new String[] {"=007", "=1.50", "=0.0000", "=999999999.9999", "=000000000"}) {
            c.put("f5", number);
            c.writes("f5", number);
        }
        Check.says("\"#\" for a reference or a range with something that is gone");
        c.put("f5", "=a4+b$0+sum(a0:$b4)+rows(c0:c1)");
        c.sheet.removeRow(0, 4);
        c.writes("f4", "=((#+b$0)+sum(#))+rows(c0:c1)");
        c.sheet.removeColumn(0, 1);
        c.writes("e4", "=((#+#)+sum(#))+rows(b0:b1)");
    }

    private static void writeThrows() {
        Check.says("write throws");
        Check c = new Check();
        c.put("a0", "=1+2");
        c.put("a1", "5");
        c.put("a2", "x");
        c.put("b0", "=seq(2)");
        Check.same("write", c.sheet.write(0, 0), 4);
        for (int place : new int[] {-1, 6, Integer.MIN_VALUE, Integer.MAX_VALUE}) {
            c.throwingSame("row", IndexOutOfBoundsException.class, () -> c.sheet.write(place, 0));
            c.throwingSame("column", IndexOutOfBoundsException.class, () -> c.sheet.write(0, place));
        }
        c.throwingSame("a number", NoSuchElementException.class, () -> c.sheet.write(1, 0));
        c.throwingSame("a text", NoSuchElementException.class, () -> c.sheet.write(2, 0));
        c.throwingSame("nothing", NoSuchElementException.class, () -> c.sheet.write(5, 5));
        c.throwingSame("what was put down", NoSuchElementException.class, () -> c.sheet.write(1, 1));
        Check.same("written as ahead", c.sheet.writtenAt(3), '2');
    }

    private static void writtenAt() {
        Check.says("Returns a character of what was written, which is empty at first.");
        Check c = new Check();
        Check.outside("at first", () -> c.sheet.writtenAt(0));
        c.put("a0", "=1");
        Check.outside("nothing is written by enter", () -> c.sheet.writtenAt(0));
        Check.same("write", c.sheet.write(0, 0), 2);
        Check.same("the first one", c.sheet.writtenAt(0), '=');
        Check.same("the last one", c.sheet.writtenAt(1), '1');
        for (int index : new int[] {-1, 2, 3, Integer.MIN_VALUE, Integer.MAX_VALUE}) {
            Check.outside("writtenAt " + index, () -> c.sheet.writtenAt(index));
        }
        c.put("a0", "=1-2");
        Check.same("as it was written", c.sheet.writtenAt(1), '1');
        Check.outside("not written yet", () -> c.sheet.writtenAt(2));
        Check.same("write", c.sheet.write(0, 0), 4);
        Check.same("in place of it", c.sheet.writtenAt(2), '-');
        c.put("a0", "=3");
        Check.same("a shorter one", c.sheet.write(0, 0), 2);
        Check.outside("nothing of the longer one", () -> c.sheet.writtenAt(2));
    }
}
