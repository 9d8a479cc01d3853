/** What formulas give: values, reckoning, functions and names (the terms behind promises 17 to 21). */
public final class ReckoningTest {
    public static void main(String[] args) {
        numbers();
        comparing();
        errorsFirst();
        arraysByThings();
        totals();
        choices();
        sequences();
        shapes();
        sorting();
        filtering();
        matching();
        wrongParts();
        names();
        wideRanges();
        subTotals();
        Check.end();
    }

    private static void numbers() {
        Check c = new Check();
        c.put("a0", "x");
        c.gives("=b0+1", "1.0");
        c.gives("=-b0", "0.0");
        c.gives("=b0%", "0.0");
        c.gives("=0*-1", "0.0");
        c.gives("=-0", "0.0");
        c.gives("=0/-5", "0.0");
        c.gives("=1/3", "" + 1.0 / 3.0);
        c.gives("=0.1+0.2", "" + (0.1 + 0.2));
        c.gives("=7%", "" + 7 / 100.0);
        c.gives("=1/0", "!d");
        c.gives("=1/b0", "!d");
        c.gives("=0/0", "!d");
        c.gives("=1/-0", "!d");
        c.gives("=a0+1", "!v");
        c.gives("=1*a0", "!v");
        c.gives("=-a0", "!v");
        c.gives("=a0%", "!v");
        c.gives("=a0/0", "!v");
        c.gives("=\"x\"+0", "!v");
        c.gives("=a0", "'x");
        c.gives("=b0", "");
        c.gives("=\"\"", "'");
        c.put("b1", "999999999");
        c.put("b2", "=b1*b1*b1*b1");
        c.put("b3", "=b2*b2*b2*b2");
        double large = 999999999.0 * 999999999.0 * 999999999.0 * 999999999.0;
        c.holds("b3", "" + large * large * large * large);
    }

    private static void comparing() {
        Check c = new Check();
        String[] rows = {"=1<2", "1", "=2<1", "0", "=1<1", "0", "=1=1", "1", "=1=2", "0",
            "=\"a\"<\"b\"", "1", "=\"b\"<\"a\"", "0", "=\"a\"<\"ab\"", "1", "=\"B\"<\"a\"", "1", "=\"a\"=\"a\"", "1",
            "=\"a\"=\"A\"", "0", "=9<\"\"", "1", "=\"\"<9", "0", "=1=\"1\"", "0", "=e5=0", "1", "=e5=e4", "1",
            "=e5=\"\"", "1", "=\"\"=e5", "1", "=e5<\"\"", "0", "=e5<\"a\"", "1", "=\"a\"<e5", "0", "=e5<1", "1",
            "=-1<e5", "1", "=e5<e4", "0", "=0=-0", "1", "=\"x\"=e5", "0"};
        for (int i = 0; i < rows.length; i += 2) {
            c.gives(rows[i], rows[i + 1] + ".0");
        }
        c.put("a0", "-0");
        c.gives("=a0=0", "1.0");
        c.gives("=a0<0", "0.0");
    }

    private static void errorsFirst() {
        Check c = new Check();
        c.put("a0", "x");
        c.gives("=1/0+A", "!d");
        c.gives("=A+1/0", "!n");
        c.gives("=A+a0", "!n");
        c.gives("=a0+A", "!n");
        c.gives("=A<1", "!n");
        c.gives("=1=A", "!n");
        c.gives("=-A", "!n");
        c.gives("=A%", "!n");
        c.gives("=A/0", "!n");
    }

    private static void arraysByThings() {
        Check c = new Check();
        c.put("a0", "=seq(2,2)*10+seq(2,2)");
        c.holds("a0", "b1", "11.0 22.0/33.0 44.0");
        c.put("a0", "=seq(2,2)-1");
        c.holds("a0", "b1", "0.0 1.0/2.0 3.0");
        c.put("a0", "=6/seq(1,3)");
        c.holds("a0", "c0", "6.0 3.0 2.0");
        c.put("a0", "=6/(seq(1,3)-2)");
        c.holds("a0", "c0", "-6.0 !d 6.0");
        c.put("a0", "=-seq(2)%");
        c.holds("a0", "a1", "-0.01/-0.02");
        c.put("a0", "=A+seq(2)");
        c.holds("a0", "a1", "!n/!n");
        c.put("a0", "=\"x\"<seq(2)");
        c.holds("a0", "a1", "0.0/0.0");
        c.put("a0", "=\"x\"*seq(2)");
        c.holds("a0", "a1", "!v/!v");
        c.put("a0", "=seq(2)+seq(1,2)");
        c.holds("a0", "a1", "!v/");
        c.put("a0", "=seq(2)+seq(3)");
        c.holds("a0", "!v");
        c.put("a0", "=2<seq(3)");
        c.holds("a0", "a2", "0.0/0.0/1.0");
        c.put("a0", "=seq(3)=2");
        c.holds("a0", "a2", "0.0/1.0/0.0");
        c.put("a0", "=d0:e1");
        c.put("d0", "x");
        c.put("e1", "=1/0");
        c.put("d1", "4");
        c.holds("a0", "b1", "'x /4.0 !d");
    }

    private static void totals() {
        Check c = new Check();
        c.put("a0", "3");
        c.put("a1", "x");
        c.put("b0", "-5");
        c.put("b2", "2.5");
        c.gives("=sum(a0:b2)", "0.5");
        c.gives("=max(a0:b2)", "3.0");
        c.gives("=min(a0:b2)", "-5.0");
        c.gives("=count(a0:b2)", "3.0");
        c.gives("=sum(a0:b2,10,\"y\",seq(3))", "16.5");
        c.gives("=max(-1,-2)", "-1.0");
        c.gives("=min(4,6)", "4.0");
        c.gives("=max(a1)", "0.0");
        c.gives("=min(a1,c3)", "0.0");
        c.gives("=sum(c3)", "0.0");
        c.gives("=count(c3,a1)", "0.0");
        c.gives("=count(A)", "!n");
        c.gives("=sum(1/0,A)", "!d");
        c.gives("=max(1,A,1/0)", "!n");
        c.put("b1", "=1/0");
        c.put("a2", "=A");
        c.gives("=sum(a0:b2)", "!d");
        c.gives("=min(a2:b2)", "!n");
        c.gives("=count(a0:b2)", "!d");
        c.put("c0", "999999999");
        c.put("c1", "=c0*c0*c0*c0*c0*c0*c0*c0");
        c.put("c2", "=c1*c1*c1*c1");
        c.put("c3", "=c2*c0*c0");
        c.put("c4", "=c3*99");
        c.gives("=sum(c4,c4,-c4,-c4)", "!o");
        c.gives("=c4*c4", "!o");
        c.gives("=-c4*c4", "!o");
        c.gives("=c4/0.0001", "!o");
        c.gives("=sum(c4,-c4)", "0.0");
    }

    private static void choices() {
        Check c = new Check();
        c.put("a0", "x");
        c.gives("=if(1,2,3)", "2.0");
        c.gives("=if(0,2,3)", "3.0");
        c.gives("=if(-0.5,2)", "2.0");
        c.gives("=if(0,2)", "0.0");
        c.gives("=if(b0,2,3)", "3.0");
        c.gives("=if(b0,2)", "0.0");
        c.gives("=if(a0,2,3)", "!v");
        c.gives("=if(\"\",2,3)", "!v");
        c.gives("=if(seq(2),2,3)", "!v");
        c.gives("=if(seq(1),2,3)", "2.0");
        c.gives("=if(A,2,3)", "!n");
        c.gives("=if(1,\"y\",A)", "'y");
        c.gives("=if(0,A,b0)", "");
        c.gives("=if(1,A,2)", "!n");
        c.gives("=iferr(1/0,7)", "7.0");
        c.gives("=iferr(a0,7)", "'x");
        c.gives("=iferr(A,1/0)", "!d");
        c.gives("=iferr(b0,7)", "");
        c.put("a1", "=iferr(6/(seq(3)-2),7)");
        c.holds("a1", "a3", "-6.0/!d/6.0");
        c.put("a1", "=if(1,seq(2),7)");
        c.holds("a1", "a2", "1.0/2.0");
        c.put("e0", "=if(0,c0,d0)+iferr(1,e1)");
        c.holds("e0", "1.0");
        Check.same("the other part is not read", c.readers("c0"), 0);
        Check.same("the one part is read", c.readers("d0"), 1);
        Check.same("the second part is not read", c.readers("e1"), 0);
    }

    private static void sequences() {
        Check c = new Check();
        c.put("a0", "=seq(2,3)");
        c.holds("a0", "c1", "1.0 2.0 3.0/4.0 5.0 6.0");
        c.put("a0", "=seq(3)");
        c.holds("a0", "b2", "1.0 /2.0 /3.0 ");
        c.gives("=seq(1,1)", "1.0");
        c.gives("=seq(1)+seq(1)", "2.0");
        String[] wrong = {"0", "-1", "1.5", "0.9999", "\"x\"", "\"\"", "e0", "seq(2)", "1,0", "1,1.5", "99,0.5", "0,99",
            "2,e0", "2,seq(2)"};
        for (String parts : wrong) {
            c.gives("=seq(" + parts + ")", "!v");
        }
        String[] many = {"61", "1,61", "8,8", "999999999,999999999", "31,2"};
        for (String parts : many) {
            c.gives("=seq(" + parts + ")", "!o");
        }
        c.gives("=sum(seq(60))", "1830.0");
        c.gives("=sum(seq(6,10))", "1830.0");
        c.gives("=seq(A,1/0)", "!n");
        c.gives("=seq(0,1/0)", "!d");
        c.gives("=seq(\"x\",A)", "!n");
        c.put("d0", "999999999");
        c.put("d1", "=d0*d0*d0*d0*d0*d0*d0*d0");
        c.gives("=seq(d1)", "!o");
        c.gives("=seq(d1/1.5,0.5)", "!v");
    }

    private static void shapes() {
        Check c = new Check();
        c.gives("=rows(a0:c1)", "2.0");
        c.gives("=cols(a0:c1)", "3.0");
        c.gives("=rows(c1:a0)", "2.0");
        c.gives("=rows(5)+cols(\"x\")+rows(a0)", "3.0");
        c.gives("=rows(A)", "!n");
        c.gives("=cols(1/0)", "!d");
        c.put("a0", "=trans(seq(2,3))");
        c.holds("a0", "b2", "1.0 4.0/2.0 5.0/3.0 6.0");
        c.gives("=trans(7)", "7.0");
        c.gives("=trans(A)", "!n");
        c.gives("=sum(trans(seq(60))-trans(seq(60)))", "0.0");
        c.put("d0", "=6/(seq(1,2)-2)");
        c.put("d1", "=trans(d0:e0)");
        c.holds("d1", "d2", "-6.0/!d");
    }

    private static void sorting() {
        Check c = new Check();
        c.put("a0", "b");
        c.put("a2", "2");
        c.put("a3", "a");
        c.put("a4", "-1");
        c.put("a5", "2");
        for (int i = 0; i < 6; i++) {
            c.put("b" + i, "" + i);
        }
        c.put("c0", "=sort(a0:b5)");
        c.holds("c0", "d5", "-1.0 4.0/2.0 2.0/2.0 5.0/'a 3.0/'b 0.0/ 1.0");
        c.gives("=sort(3)", "3.0");
        c.gives("=sort(\"x\")", "'x");
        c.gives("=sort(A)", "!n");
        c.put("b3", "=1/0");
        c.put("b4", "=A");
        c.holds("c0", "!d");
        c.put("c0", "=sort(a2:a5)");
        c.holds("c0", "c3", "-1.0/2.0/2.0/'a");
        c.put("c0", "=sort(seq(1,2))");
        c.holds("c0", "d0", "1.0 2.0");
        c.put("c0", "=sort(-seq(3,2))");
        c.holds("c0", "d2", "-5.0 -6.0/-3.0 -4.0/-1.0 -2.0");
    }

    private static void filtering() {
        Check c = new Check();
        c.put("a0", "=filter(seq(4,2),2<seq(4))");
        c.holds("a0", "b2", "5.0 6.0/7.0 8.0/ ");
        c.put("a0", "=filter(seq(4,2),seq(4)=2)");
        c.holds("a0", "b1", "3.0 4.0/ ");
        c.put("a0", "=filter(seq(4),seq(4)=2)");
        c.holds("a0", "2.0");
        Check.same("an array of one is the thing", c.spill("a0"), -1);
        c.gives("=filter(seq(4),0*seq(4))", "!a");
        c.gives("=filter(5,1)", "5.0");
        c.gives("=filter(5,0)", "!a");
        c.gives("=filter(5,\"x\")", "!a");
        c.gives("=filter(5,e5)", "!a");
        c.gives("=filter(seq(4),seq(3))", "!v");
        c.gives("=filter(seq(4),seq(4,2))", "!v");
        c.gives("=filter(seq(4),1)", "!v");
        c.gives("=filter(seq(1,2),seq(1,2))", "!v");
        c.gives("=filter(A,1/0)", "!n");
        c.gives("=filter(seq(3),A)", "!n");
        c.gives("=filter(seq(3),1/(seq(3)-2))", "!d");
        c.gives("=filter(seq(3),1/(seq(4)-2))", "!v");
        c.put("d0", "=1/0");
        c.put("d1", "x");
        c.put("d2", "1");
        c.put("e0", "1");
        c.put("e1", "1");
        c.put("e2", "y");
        c.put("a0", "=filter(d0:d2,e0:e2)");
        c.holds("a0", "a2", "!d/'x/");
    }

    private static void matching() {
        Check c = new Check();
        c.put("a0", "x");
        c.put("b0", "=1/0");
        c.put("b1", "4");
        c.put("c1", "4");
        c.put("a2", "y");
        c.gives("=match(4,a0:c2)", "5.0");
        c.gives("=match(\"y\",a0:c2)", "7.0");
        c.gives("=match(\"x\",a0:c2)", "1.0");
        c.gives("=match(0,a0:c2)", "3.0");
        c.gives("=match(\"\",a0:c2)", "3.0");
        c.gives("=match(e5,a0:c2)", "3.0");
        c.gives("=match(5,a0:c2)", "!a");
        c.gives("=match(\"4\",a0:c2)", "!a");
        c.gives("=match(5,5)", "1.0");
        c.gives("=match(seq(2),5)", "!v");
        c.gives("=match(seq(2),A)", "!n");
        c.gives("=match(A,1/0)", "!n");
        c.gives("=match(1,b0)", "!d");
        c.gives("=match(b0,a0:c2)", "!d");
    }

    private static void wrongParts() {
        Check c = new Check();
        String[] formulas = {"zzz(1)", "a(1)", "summ(1)", "if(1)", "if(1,2,3,4)", "iferr(1)", "iferr(1,2,3)",
            "seq(1,2,3)", "rows(1,2)", "cols(1,2)", "trans(1,2)", "sort(1,2)", "filter(1)", "filter(1,2,3)",
            "match(1)", "match(1,2,3)", "sub(a0,a1)", "if(1/0)", "sub(1,2)"};
        for (String formula : formulas) {
            c.gives("=" + formula, "!n");
        }
        c.put("e0", "=zzz(a0)+rows(a0,a0)");
        c.holds("e0", "!n");
        Check.same("a function that there is not reads nothing", c.readers("a0"), 0);
    }

    private static void names() {
        Check c = new Check();
        c.put("a0", "4");
        c.name('A', "=a0*2");
        c.put("b0", "=A+1");
        c.holds("b0", "9.0");
        Check.same("read through a name", c.readers("a0"), 1);
        c.sheet.insertRow(0, 0);
        c.holds("b1", "9.0");
        c.fill("b1", "c5");
        c.holds("c5", "9.0");
        c.sheet.removeRow(0, 1);
        c.holds("c4", "!r");
        c.name('A', "=seq(2)");
        c.put("d0", "=A");
        c.holds("d0", "d1", "1.0/2.0");
        c.name('A', "=A+1");
        c.holds("d0", "!n");
        c.name('A', "=B+1");
        c.name('B', "=C+1");
        c.name('C', "=D+1");
        c.name('D', "=E+1");
        c.name('E', "=F+1");
        c.name('F', "=1");
        c.holds("d0", "6.0");
        c.name('F', "=iferr(A,100)");
        c.holds("d0", "105.0");
        c.name('F', "=A");
        c.holds("d0", "!n");
        c.name('A', "=iferr(A,0)+1");
        c.holds("d0", "6.0");
        c.name('A', "=iferr(B,0)+1");
        c.name('B', "=iferr(A,10)+1");
        c.holds("d0", "16.0");
        c.name('F', "=1");
        c.name('A', "=B+B+B+B+B+B+B+B+B+B");
        c.name('B', "=C+C+C+C+C+C+C+C+C+C");
        c.name('C', "=D+D+D+D+D+D+D+D+D+D");
        c.name('D', "=E+E+E+E+E+E+E+E+E+E");
        c.name('E', "=F+F+F+F+F+F+F+F+F+F");
        c.holds("d0", "100000.0");
        c.name('F', "=A+A+A+A+A+A+A+A+A+A");
        c.holds("d0", "!n");
    }

    private static void wideRanges() {
        Check c = new Check();
        for (int i = 0; i < 4; i++) {
            c.sheet.insertRow(0, 6);
        }
        c.put("a0", "1");
        c.gives("=sum(a0:e9)", "1.0");
        c.put("f0", "=sum(a0:e9)");
        c.holds("f0", "1.0");
        c.sheet.insertColumn(0, 6);
        c.put("g0", "=sum(a1:f9)");
        c.holds("g0", "0.0");
        c.put("g0", "=rows(a0:f9)");
        c.holds("g0", "10.0");
        c.sheet.insertColumn(0, 6);
        c.put("h0", "=rows(a0:g9)");
        c.holds("h0", "!o");
        Check.same("all of them are read", c.readers("g9"), 1);
        c.put("h0", "=sub(a0:g9)");
        c.put("g0", "");
        c.holds("h0", "2.0");
        c.put("h0", "=iferr(a0:g9,5)");
        c.holds("h0", "5.0");
    }

    private static void subTotals() {
        Check c = new Check();
        for (int i = 0; i < 5; i++) {
            c.put("a" + i, "1");
        }
        c.put("a5", "=sub(a0:a4)");
        c.put("b5", "=sub(a0:a5)");
        c.holds("a5", "b5", "5.0 5.0");
        Check.same("a sub is not read by a sub", c.readers("a5"), 0);
        Check.same("what is not left out is read", c.readers("a4"), 2);
        c.sheet.hide(2, true);
        c.holds("a5", "b5", "4.0 4.0");
        Check.same("a hidden cell is not read", c.readers("a2"), 0);
        c.put("a4", "=sub(a0:a1)+0");
        c.holds("b5", "5.0");
        c.put("a4", "=(sub(a0:a1))");
        c.holds("b5", "3.0");
        c.put("a1", "=A");
        c.put("a0", "=1/0");
        c.holds("b5", "!d");
        c.sheet.hide(0, true);
        c.holds("b5", "!n");
        c.sheet.hide(1, true);
        c.holds("b5", "1.0");
        c.gives("=sub(a3)", "1.0");
        c.gives("=sub((a3))", "1.0");
        c.gives("=sub(a2)", "0.0");
        c.gives("=sub(1)", "!v");
        c.gives("=sub(a3+0)", "!v");
        c.gives("=sub(A)", "!v");
        c.name('A', "=a3");
        c.gives("=sub(A)", "!v");
        c.gives("=sub(if(1,a3))", "!v");
        c.put("f5", "=sub(a3:e4)");
        c.sheet.removeColumn(0, 4);
        c.holds("e5", "!r");
    }
}
