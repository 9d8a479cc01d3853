/** Which formulas can be read, how deep they may be, and how they are written (promises 4, 28, 29, 30). */
public final class FormulasTest {
    public static void main(String[] args) {
        readable();
        refused();
        depth();
        order();
        writing();
        writingWrongly();
        goneReferences();
        contents();
        Check.end();
    }

    private static void readable() {
        Check c = new Check();
        String[] formulas = {"=1", "=12.5", "=\"\"", "=\"a b(\"", "=a0", "=$a0", "=a$0", "=$a$0", "=f5", "=a0:b1",
            "=$a0:b$1", "=A", "=F", "=(1)", "=((a0))", "=--1", "=-1%%", "=1+2-3*4/5", "=1<2", "=1=2", "=(1=2)=3",
            "=zzz(1)", "=a(1)", "=h(1)", "=sum(1,2,3)", "=sum(a0:b1,1+2)", "=-(1)", "=(-1)%", "=2*-3", "=2--3",
            "=123456789.1234", "=\"=\"=\"'\"", "=seq(2,seq(1))"};
        for (String formula : formulas) {
            Check.same(formula, c.put("d3", formula), 'f');
        }
    }

    private static void refused() {
        Check c = new Check();
        String[] formulas = {"=", "==1", "=1+", "=+1", "=1 ", "= 1", "=1+ 2", "=(", "=()", "=(1", "=1)", "=\"a", "=\"",
            "=a", "=a0b", "=g0", "=a6", "=a9", "=h5", "=z0", "=$", "=$a", "=a$", "=$$a0", "=a$$0", "=a0:", "=a0:1",
            "=a0:A", "=a0:b1:c2", "=a0:g0", "=G", "=AB", "=A0", "=sum", "=sum(", "=sum()", "=sum(1", "=sum(1,)",
            "=sum(,1)", "=sum(1,,2)", "=Sum(1)", "=sum (1)", "=1<2<3", "=1=2=3", "=1<=2", "=1>2", "=1.", "=.5",
            "=1234567890", "=1.12345", "=1.2.3", "=%1", "=1*/2", "=1**2", "=a00", "=a0$", "=-", "=*", "=1e3", "=a-0:b1",
            "=(a0):b1", "=a0(1)", "=1(2)", "=A(1)", "=\"a\"\"b\"", "=1,2", "=#", "=a10", "=sum1(1)"};
        for (String formula : formulas) {
            c.refuses("d3", formula);
        }
        Check.same("nothing entered", c.sheet.contentAt(3, 3), 'b');
        Check.same("nothing kept", c.sheet.kept(0), 0);
        c.sheet.insertRow(0, 0);
        Check.same("a row that came", c.put("d3", "=a6"), 'f');
        c.sheet.removeColumn(0, 0);
        c.refuses("d3", "=f0");
    }

    private static void depth() {
        Check c = new Check();
        Check.same("ten deep", c.put("d3", "=---------1"), 'f');
        c.refuses("d3", "=----------1");
        Check.same("ten deep by %", c.put("d3", "=1%%%%%%%%%"), 'f');
        c.refuses("d3", "=1%%%%%%%%%%");
        Check.same("ten deep by +", c.put("d3", "=1+1+1+1+1+1+1+1+1+1"), 'f');
        c.refuses("d3", "=1+1+1+1+1+1+1+1+1+1+1");
        Check.same("( and ) are nothing", c.put("d3", "=(((((((((((((((1)))))))))))))))"), 'f');
        Check.same("ranges are one deep", c.put("d3", "=--------sum(a0:b1)"), 'f');
        c.refuses("d3", "=---------sum(a0:b1)");
        Check.same("functions are deeper than their parts", c.put("d3", "=sum(sum(sum(sum(sum(---A)))))"), 'f');
        c.refuses("d3", "=sum(sum(sum(sum(sum(-----A)))))");
        Check.same("the deepest part", c.put("d3", "=1+(1+(1+(1+(1+(1+(1+1))))))"), 'f');
        c.name('A', "=---------1");
        c.gives("=A", "-1.0");
        c.sheet.erase();
        c.type("=----------1");
        Check.refused("define of what is too deep", () -> c.sheet.define('A'));
    }

    private static void order() {
        Check c = new Check();
        c.gives("=1+2*3", "7.0");
        c.gives("=(1+2)*3", "9.0");
        c.gives("=10-4-3", "3.0");
        c.gives("=100/10/5", "2.0");
        c.gives("=8/4*2", "4.0");
        c.gives("=-2*-3", "6.0");
        c.gives("=-50%", "-0.5");
        c.gives("=200%%", "0.02");
        c.gives("=1+1=2", "1.0");
        c.gives("=1+1<2", "0.0");
        c.gives("=2<1+3", "1.0");
        c.gives("=1-1=0-0", "1.0");
        c.gives("=5--2", "7.0");
        c.gives("=2*3%", "0.06");
    }

    private static void writing() {
        Check c = new Check();
        String[] pairs = {"=1+2", "=1+2", "=1+2+3", "=(1+2)+3", "=1+2*3", "=1+(2*3)", "=((1+2))", "=1+2",
            "=01.50*\"x y\"", "=01.50*\"x y\"", "=-(1+2)", "=-(1+2)", "=(1+2)%", "=(1+2)%", "=(-1)%", "=-1%",
            "=--a0", "=--a0", "=sum(1+2,(3))", "=sum((1+2),3)", "=if(1<2,A,\"\")", "=if((1<2),A,\"\")",
            "=$a0:b$1", "=$a0:b$1", "=b1:a0+1", "=b1:a0+1", "=zzz((1))", "=zzz(1)", "=1=2", "=1=2",
            "=(1=2)=3", "=(1=2)=3", "=2*(3)", "=2*3", "=-(2)", "=-2"};
        for (int i = 0; i < pairs.length; i += 2) {
            c.put("d3", pairs[i]);
            c.writes("d3", pairs[i + 1]);
        }
        c.put("d3", "=1+1+1+1+1+1+1+1+1+1");
        Check.same("longer than it was typed", c.sheet.write(3, 3), 36);
        Check.same("writtenAt", c.sheet.writtenAt(0), '=');
        Check.same("writtenAt", c.sheet.writtenAt(35), '1');
        c.put("e3", "=a0");
        Check.same("in place of what was written", c.sheet.write(3, 4), 3);
        Check.outside("writtenAt behind it", () -> c.sheet.writtenAt(3));
        c.put("e3", "=b0");
        Check.same("what was written stays", c.sheet.writtenAt(1), 'a');
    }

    private static void writingWrongly() {
        Check c = new Check();
        Check.outside("writtenAt at first", () -> c.sheet.writtenAt(0));
        c.put("a0", "=12");
        c.put("a1", "12");
        c.put("a2", "x");
        Check.same("write", c.sheet.write(0, 0), 3);
        c.throwingSame("no formula", java.util.NoSuchElementException.class, () -> c.sheet.write(1, 0));
        c.throwingSame("no formula", java.util.NoSuchElementException.class, () -> c.sheet.write(2, 0));
        c.throwingSame("nothing", java.util.NoSuchElementException.class, () -> c.sheet.write(3, 0));
        c.throwingSame("row", IndexOutOfBoundsException.class, () -> c.sheet.write(6, 0));
        c.throwingSame("column", IndexOutOfBoundsException.class, () -> c.sheet.write(0, -1));
        Check.same("written as ahead", c.sheet.writtenAt(2), '2');
        Check.outside("writtenAt -1", () -> c.sheet.writtenAt(-1));
        Check.outside("writtenAt 3", () -> c.sheet.writtenAt(3));
        Check.outside("wild writtenAt", () -> c.sheet.writtenAt(Integer.MAX_VALUE));
    }

    private static void goneReferences() {
        Check c = new Check();
        c.put("d3", "=b2+sum(a0:b4)+$c$5");
        c.sheet.insertRow(0, 1);
        c.sheet.insertColumn(0, 1);
        c.writes("e4", "=(c3+sum(a0:c5))+$d$6");
        c.sheet.removeRow(1, 5);
        c.writes("e4", "=(c3+sum(#))+$d$5");
        c.sheet.removeColumn(2, 3);
        c.writes("d4", "=(c3+sum(#))+#");
        c.sheet.undo(2);
        c.sheet.undo(1);
        c.writes("e4", "=(c3+sum(a0:c5))+$d$6");
    }

    private static void contents() {
        Check c = new Check();
        c.put("a0", "1");
        c.put("a1", "x");
        c.put("a2", "=seq(2,1)");
        Check.same("contentAt", c.sheet.contentAt(0, 0), 'n');
        Check.same("contentAt", c.sheet.contentAt(1, 0), 't');
        Check.same("contentAt", c.sheet.contentAt(2, 0), 'f');
        c.holds("a3", "2.0");
        Check.same("contentAt of what was put down on", c.sheet.contentAt(3, 0), 'b');
        c.throwingSame("row", IndexOutOfBoundsException.class, () -> c.sheet.contentAt(6, 0));
        c.throwingSame("row", IndexOutOfBoundsException.class, () -> c.sheet.contentAt(-1, 0));
        c.throwingSame("column", IndexOutOfBoundsException.class, () -> c.sheet.contentAt(0, 6));
        c.throwingSame("column", IndexOutOfBoundsException.class, () -> c.sheet.contentAt(0, -1));
    }
}
