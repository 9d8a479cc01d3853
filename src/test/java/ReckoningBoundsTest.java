/** Each sentence of "Values", "Reckoning", "Functions" and "Names" that names a boundary. */
public final class ReckoningBoundsTest {
    public static void main(String[] args) {
        atMostSixtyThings();
        infiniteNumbers();
        theLargestNumber();
        blankIsZero();
        aTextIsWrong();
        noMinusZero();
        twoNumbers();
        twoTexts();
        twoBlanks();
        aNumberIsLessThanAText();
        theFirstErrorOfTwo();
        aSingleThingAndAnArray();
        twoArrays();
        theNumbersAlone();
        theFirstErrorThatIsMet();
        ofNone();
        howManyNumbers();
        theConditionOfIf();
        theThirdPart();
        theOtherOneIsNotWorkedOut();
        theSecondPartOfIferr();
        wholeNumbersOfAtLeastOne();
        sequences();
        rowsAndColumns();
        transposing();
        sorting();
        sortingErrors();
        filtering();
        filteringWrongShapes();
        filteringErrors();
        matching();
        matchingNothing();
        allPartsFirst();
        partCounts();
        unknownFunctions();
        subParts();
        subLeavesOut();
        subOfAll();
        namesOfNothing();
        namesMeanWhatTheyMeant();
        namesWithinNames();
        namesInSeveralCells();
        Check.end();
    }

    private static void gives(String... pairs) {
        Check c = new Check();
        for (int i = 0; i < pairs.length; i += 2) {
            c.gives(pairs[i], pairs[i + 1]);
        }
    }

    private static void atMostSixtyThings() {
        Check.says("an array with more than 60 things");
        gives("=sum(seq(60))", "1830.0", "=sum(seq(61))", "!o", "=count(seq(1,60))", "60.0", "=count(seq(1,61))", "!o",
                "=rows(seq(6,10))", "6.0", "=rows(seq(7,9))", "!o", "=cols(seq(59,1))", "1.0", "=cols(seq(31,2))", "!o");
        Check c = new Check().grow();
        c.put("h0", "=rows(a0:f9)");
        c.holds("h0", "10.0");
        c.put("h0", "=rows(a0:g8)");
        c.holds("h0", "!o");
        c.put("g9", "=cols(a0:h6)");
        c.holds("g9", "8.0");
        c.put("g9", "=count(a1:h7)");
        c.holds("g9", "0.0");
        c.put("g9", "=count(a0:h7)");
        c.holds("g9", "!o");
    }

    /** Puts the number 1e300 into a0, 1e150 into a1, and nearly the largest one into a2. */
    private static Check large() {
        Check c = new Check();
        c.put("b0", "100000000");
        c.put("b1", "=b0*b0*b0*b0*b0*b0*b0*b0");
        c.put("a1", "=b1*b1*b0*b0*1000000");
        c.put("a0", "=a1*a1");
        c.put("a2", "=a0*b0*1.79");
        return c;
    }

    private static void infiniteNumbers() {
        Check.says("a number that would be infinite");
        Check c = large();
        c.gives("=a2<a0", "0.0");
        c.gives("=1<a2", "1.0");
        c.gives("=a2+0=a2", "1.0");
        c.gives("=a2+a2", "!o");
        c.gives("=-a2-a2", "!o");
        c.gives("=a2*2", "!o");
        c.gives("=a2*-2", "!o");
        c.gives("=a2/0.5", "!o");
        c.gives("=a2/2+a2/2=a2", "1.0");
        c.gives("=sum(a2,a2)", "!o");
        c.gives("=sum(-a2,-a2)", "!o");
        c.gives("=max(a2,-a2)=a2", "1.0");
        c.gives("=sum(a2,-a2)", "0.0");
        c.gives("=count(a2,a2)", "2.0");
        c.gives("=a2*2*0", "!o");
        c.gives("=a2*2-a2*2", "!o");
        c.put("c0", "=seq(2)*a2");
        c.gives("=c0=a2", "1.0");
        c.gives("=c1", "!o");
    }

    private static void theLargestNumber() {
        Check.says("a number that would be infinite");
        Check c = new Check();
        c.put("b0", "536870912");
        c.put("b1", "=b0*b0*b0*b0*b0*b0*b0*b0");
        c.put("b2", "=b1*b1*b1*b1");
        c.put("b3", "=b2*b0*16384");
        c.put("a0", "=(9007199*1000*1000000+254740991)*b3");
        c.put("a1", "=-a0");
        c.holds("a0", "a1", Double.MAX_VALUE + "/" + -Double.MAX_VALUE);
        // A quarter of its last place is lost; a half of it is too much.
        c.gives("=a0+b3/4=a0", "1.0");
        c.gives("=a0+b3/2", "!o");
        c.gives("=a1-b3/4=a1", "1.0");
        c.gives("=a1-b3/2", "!o");
        c.gives("=sum(a0,b3/4)=a0", "1.0");
        c.gives("=sum(a0,b3/2)", "!o");
        c.gives("=sum(a1,-b3/2)", "!o");
        c.gives("=sub(a0)=a0", "1.0");
        c.put("c0", "=a0*1");
        Check.same("bitsOf", c.sheet.bitsOf(0, 2), Double.doubleToLongBits(Double.MAX_VALUE));
        Check.same("bitsOf", c.sheet.bitsOf(1, 0), Double.doubleToLongBits(-Double.MAX_VALUE));
    }

    private static void blankIsZero() {
        Check.says("For '+', '-', '*', '/', '%' and '-' ahead, blank is 0");
        gives("=a0+5", "5.0", "=5+a0", "5.0", "=a0-5", "-5.0", "=5-a0", "5.0", "=a0*5", "0.0", "=5*a0", "0.0",
                "=a0/5", "0.0", "=5/a0", "!d", "=a0%", "0.0", "=-a0", "0.0", "=a0+a1", "0.0", "=a0/a1", "!d");
    }

    private static void aTextIsWrong() {
        Check.says("and a text is 'v'");
        for (String text : new String[] {"\"x\"", "\"\"", "\"1\"", "\" \""}) {
            gives("=" + text + "+5", "!v", "=5+" + text, "!v", "=" + text + "-5", "!v", "=5-" + text, "!v",
                    "=" + text + "*5", "!v", "=5*" + text, "!v", "=" + text + "/5", "!v", "=5/" + text, "!v",
                    "=" + text + "%", "!v", "=-" + text, "!v", "=" + text + "/0", "!v", "=a0+" + text, "!v");
        }
    }

    private static void noMinusZero() {
        Check.says("a result of -0.0 is 0.0");
        String[] formulas = {"-0", "-a0", "0*-1", "-1*0", "0/-1", "-0%", "0-0", "-0-0", "-(1-1)", "(0*-1)%", "-a0%",
            "a0*-1", "a0/-1", "-seq(1)*0"};
        for (String formula : formulas) {
            Check c = new Check();
            c.put("f5", "=" + formula);
            Check.same(formula, c.sheet.bitsOf(5, 5), 0L);
        }
        Check c = new Check();
        c.put("a0", "=-seq(2)*0");
        Check.same("of an array", c.sheet.bitsOf(1, 0), 0L);
        Check d = large();
        d.put("c0", "=1/a0/b0");
        d.put("c1", "=-c0*c0");
        Check.same("of what is too small", d.sheet.bitsOf(1, 2), 0L);
        d.put("c1", "=-c0/a0");
        Check.same("of what is too small", d.sheet.bitsOf(1, 2), 0L);
    }

    private static void twoNumbers() {
        Check.says("'<' and '=' give 1 or 0: of two numbers, where blank is 0, as Java's");
        gives("=1<2", "1.0", "=2<2", "0.0", "=3<2", "0.0", "=1=2", "0.0", "=2=2", "1.0", "=-1<a0", "1.0", "=0<a0", "0.0",
                "=a0<0", "0.0", "=a0<1", "1.0", "=a0=0", "1.0", "=0=a0", "1.0", "=1=a0", "0.0", "=0.1+0.2=0.3", "0.0",
                "=0.5=1/2", "1.0");
        Check c = new Check();
        c.put("a0", "-0");
        c.gives("=a0=0", "1.0");
        c.gives("=a0<0", "0.0");
    }

    private static void twoTexts() {
        Check.says("of two texts, where blank is the empty text, by compareTo() and equals()");
        gives("=\"a\"<\"b\"", "1.0", "=\"b\"<\"a\"", "0.0", "=\"a\"<\"a\"", "0.0", "=\"a\"=\"a\"", "1.0",
                "=\"a\"=\"A\"", "0.0", "=\"A\"<\"a\"", "1.0", "=\"a\"<\"aa\"", "1.0", "=\"aa\"<\"a\"", "0.0",
                "=\"aa\"<\"b\"", "1.0", "=\"10\"<\"9\"", "1.0", "=\"a\"=\"a \"", "0.0", "=\"\"=\"\"", "1.0",
                "=\"\"<\"a\"", "1.0", "=a0=\"\"", "1.0", "=\"\"=a0", "1.0", "=a0<\"\"", "0.0", "=\"\"<a0", "0.0",
                "=a0<\"a\"", "1.0", "=\"a\"<a0", "0.0", "=a0=\"a\"", "0.0");
    }

    private static void twoBlanks() {
        Check.says("of two blanks as of numbers");
        gives("=a0=a1", "1.0", "=a0<a1", "0.0", "=a0=a0", "1.0");
    }

    private static void aNumberIsLessThanAText() {
        Check.says("a number is less than a text");
        gives("=9<\"\"", "1.0", "=9<\"1\"", "1.0", "=\"1\"<9", "0.0", "=\"\"<0", "0.0", "=1=\"1\"", "0.0",
                "=\"1\"=1", "0.0", "=0=\"\"", "0.0", "=\"\"=0", "0.0");
    }

    private static void theFirstErrorOfTwo() {
        Check.says("An error as a thing is the result, the first one of two.");
        for (String sign : new String[] {"+", "-", "*", "/", "<", "="}) {
            gives("=A" + sign + "(1/0)", "!n", "=(1/0)" + sign + "A", "!d", "=A" + sign + "1", "!n",
                    "=1" + sign + "A", "!n", "=\"x\"" + sign + "A", "!n", "=A" + sign + "\"x\"", "!n",
                    "=a0" + sign + "A", "!n", "=0" + sign + "A", "!n");
        }
        gives("=-A", "!n", "=A%", "!n", "=A/0", "!n");
    }

    private static void aSingleThingAndAnArray() {
        Check.says("a single thing goes with each one of an array");
        Check c = new Check();
        String[] rows = {"=10+seq(2,2)", "11.0 12.0/13.0 14.0", "=seq(2,2)+10", "11.0 12.0/13.0 14.0",
            "=12/seq(2,2)", "12.0 6.0/4.0 3.0", "=seq(2,2)/2", "0.5 1.0/1.5 2.0", "=2<seq(2,2)", "0.0 0.0/1.0 1.0",
            "=seq(2,2)=3", "0.0 0.0/1.0 0.0", "=-seq(2,2)", "-1.0 -2.0/-3.0 -4.0", "=seq(2,2)%", "0.01 0.02/0.03 0.04",
            "=\"x\"+seq(2,2)", "!v !v/!v !v", "=seq(2,2)+A", "!n !n/!n !n", "=f5+seq(2,2)", "1.0 2.0/3.0 4.0",
            "=6/(seq(2,2)-2)", "-6.0 !d/6.0 3.0"};
        for (int i = 0; i < rows.length; i += 2) {
            c.put("b1", rows[i]);
            c.holds("b1", "c2", rows[i + 1]);
        }
    }

    private static void twoArrays() {
        Check.says("two arrays must have the same rows and columns, or it is the error 'v'");
        Check c = new Check();
        String[] rows = {"=seq(2,2)*seq(2,2)", "1.0 4.0/9.0 16.0", "=seq(2,2)=seq(2,2)", "1.0 1.0/1.0 1.0",
            "=seq(2,2)+seq(2)", "!v / ", "=seq(2,2)+seq(1,2)", "!v / ", "=seq(1,4)+seq(4)", "!v / ",
            "=seq(2,3)<seq(3,2)", "!v / ", "=seq(2,2)+seq(2,3)", "!v / ", "=seq(2,2)+seq(3,2)", "!v / ",
            "=seq(2,2)+seq(1,1)", "2.0 3.0/4.0 5.0"};
        for (int i = 0; i < rows.length; i += 2) {
            c.put("b1", rows[i]);
            c.holds("b1", "c2", rows[i + 1]);
        }
    }

    private static void theNumbersAlone() {
        Check.says("take the numbers alone, those that are blank or texts left out");
        Check c = new Check();
        c.put("a0", "3");
        c.put("a1", "x");
        c.put("b1", "-7");
        c.put("a2", "");
        c.put("b2", "=\"9\"");
        c.gives("=sum(a0:b2)", "-4.0");
        c.gives("=max(a0:b2)", "3.0");
        c.gives("=min(a0:b2)", "-7.0");
        c.gives("=count(a0:b2)", "2.0");
        c.gives("=max(b1:b2)", "-7.0");
        c.gives("=min(a0:a2)", "3.0");
        c.gives("=sum(a0:b2,a0,\"x\",e5,seq(2))", "2.0");
        c.gives("=count(a0:b2,a0,\"x\",e5,seq(2))", "5.0");
    }

    private static void theFirstErrorThatIsMet() {
        Check.says("an error is the result, the first one that is met so");
        Check c = new Check();
        c.put("b0", "=1/0");
        c.put("a1", "=A");
        for (String name : new String[] {"sum", "max", "min", "count"}) {
            c.gives("=" + name + "(a0:b1)", "!d");
            c.gives("=" + name + "(a1,a0:b1)", "!n");
            c.gives("=" + name + "(1,b0,a1)", "!d");
            c.gives("=" + name + "(trans(a0:b1))", "!n");
            c.gives("=" + name + "(a1:b1)", "!n");
            c.gives("=" + name + "(\"x\",1/0)", "!d");
        }
    }

    private static void ofNone() {
        Check.says("\"max\" and \"min\" of none are 0");
        gives("=max(a0)", "0.0", "=min(a0)", "0.0", "=max(\"x\")", "0.0", "=min(\"x\",a0:b1)", "0.0", "=max(-1)", "-1.0",
                "=min(1)", "1.0", "=max(-2,a0)", "-2.0", "=min(a0,2)", "2.0", "=sum(a0)", "0.0", "=sum(\"x\")", "0.0");
    }

    private static void howManyNumbers() {
        Check.says("\"count\" is how many numbers there are");
        gives("=count(a0)", "0.0", "=count(\"x\")", "0.0", "=count(0)", "1.0", "=count(1,\"x\",a0,2)", "2.0",
                "=count(seq(60),seq(60))", "120.0");
    }

    private static void theConditionOfIf() {
        Check.says("the first one must be a number, where blank is 0, a text or an array is 'v'");
        gives("=if(1,2,3)", "2.0", "=if(0,2,3)", "3.0", "=if(-1,2,3)", "2.0", "=if(0.0001,2,3)", "2.0",
                "=if(a0,2,3)", "3.0", "=if(\"x\",2,3)", "!v", "=if(\"\",2,3)", "!v", "=if(\"1\",2,3)", "!v",
                "=if(seq(2),2,3)", "!v", "=if(a0:b0,2,3)", "!v", "=if(a0:a0,2,3)", "3.0", "=if(seq(1),2,3)", "2.0",
                "=if(A,2,3)", "!n", "=if(1/0,2)", "!d", "=if(A+seq(2),2,3)", "!v");
    }

    private static void theThirdPart() {
        Check.says("the second one, if it is not 0, otherwise the third one, or 0");
        gives("=if(1,2)", "2.0", "=if(0,2)", "0.0", "=if(a0,2)", "0.0", "=if(0,2,\"x\")", "'x", "=if(0,2,a1)", "",
                "=if(1,a1,2)", "", "=rows(if(1,seq(3),2))", "3.0", "=rows(if(0,2,seq(4)))", "4.0");
    }

    private static void theOtherOneIsNotWorkedOut() {
        Check.says("the other one is not worked out");
        gives("=if(1,2,1/0)", "2.0", "=if(0,1/0,2)", "2.0", "=if(0,1/0)", "0.0", "=if(1,1/0,2)", "!d");
        Check c = new Check();
        c.put("c0", "=if(a0,a1,b1)");
        Check.same("readers of the third one", c.readers("b1"), 1);
        Check.same("readers of the second one", c.readers("a1"), 0);
        c.put("a0", "1");
        Check.same("readers of the third one", c.readers("b1"), 0);
        Check.same("readers of the second one", c.readers("a1"), 1);
        c.put("a0", "x");
        Check.same("readers of neither", c.readers("a1") + c.readers("b1"), 0);
    }

    private static void theSecondPartOfIferr() {
        Check.says("\"iferr\" has 2: the first one, or, if it is an error, the second one, which is not worked out otherwise");
        gives("=iferr(1,2)", "1.0", "=iferr(1/0,2)", "2.0", "=iferr(a0,2)", "", "=iferr(\"x\",2)", "'x",
                "=iferr(1,1/0)", "1.0", "=iferr(1/0,A)", "!n", "=iferr(iferr(A,1/0),3)", "3.0",
                "=rows(iferr(A,seq(3)))", "3.0", "=iferr(rows(A+seq(2)),7)", "2.0");
        Check c = new Check();
        c.put("a0", "=iferr(A+seq(2),7)");
        c.holds("a0", "a1", "!n/!n");
        c.put("c0", "=iferr(d0,d1)");
        Check.same("readers of the second one", c.readers("d1"), 0);
        c.put("d0", "=A");
        Check.same("readers of the second one", c.readers("d1"), 1);
        Check.same("readers of the first one", c.readers("d0"), 1);
    }

    private static void wholeNumbersOfAtLeastOne() {
        Check.says("\"seq\" has 1 or 2, whole numbers of at least 1, or it is 'v'");
        gives("=seq(1)", "1.0", "=seq(0)", "!v", "=seq(-1)", "!v", "=seq(0.9999)", "!v", "=seq(1.5)", "!v",
                "=seq(1.0)", "1.0", "=seq(a0)", "!v", "=seq(\"1\")", "!v", "=seq(\"\")", "!v", "=seq(seq(2))", "!v",
                "=seq(1,1)", "1.0", "=seq(1,0)", "!v", "=seq(0,1)", "!v", "=seq(1,-1)", "!v", "=seq(1,1.5)", "!v",
                "=seq(1,a0)", "!v", "=seq(1,\"1\")", "!v", "=seq(1,seq(2))", "!v", "=seq(seq(2),1)", "!v",
                "=rows(seq(seq(1)+1))", "2.0");
    }

    private static void sequences() {
        Check.says("an array with as many rows, and as many columns, or 1, of 1, 2 and so on by rows");
        Check c = new Check();
        c.put("a0", "=seq(2,3)");
        c.holds("a0", "d2", "1.0 2.0 3.0 /4.0 5.0 6.0 /   ");
        c.put("a0", "=seq(3)");
        c.holds("a0", "b3", "1.0 /2.0 /3.0 / ");
        c.put("a0", "=seq(1,3)");
        c.holds("a0", "d1", "1.0 2.0 3.0 /   ");
    }

    private static void rowsAndColumns() {
        Check.says("\"rows\" and \"cols\" have 1: how many there are");
        gives("=rows(5)", "1.0", "=cols(5)", "1.0", "=rows(\"x\")", "1.0", "=cols(a0)", "1.0", "=rows(a0:c1)", "2.0",
                "=cols(a0:c1)", "3.0", "=rows(c1:a0)", "2.0", "=cols(trans(a0:c1))", "2.0", "=rows(A)", "!n",
                "=cols(1/0)", "!d", "=rows(1/(seq(3)-2))", "3.0", "=rows(seq(60))", "60.0", "=cols(seq(1,60))", "60.0");
    }

    private static void transposing() {
        Check.says("\"trans\" has 1: rows become columns");
        Check c = new Check();
        c.put("a0", "=trans(seq(2,3))");
        c.holds("a0", "c3", "1.0 4.0 /2.0 5.0 /3.0 6.0 /  ");
        c.put("a0", "=trans(seq(3))");
        c.holds("a0", "c1", "1.0 2.0 3.0/  ");
        c.put("a0", "=trans(trans(seq(2,3)))");
        c.holds("a0", "c1", "1.0 2.0 3.0/4.0 5.0 6.0");
        gives("=trans(7)", "7.0", "=trans(a0)", "", "=trans(A)", "!n", "=sum(trans(seq(10,6)))", "1830.0",
                "=sum(trans(seq(10,6))-seq(6,10))", "0.0");
        c.put("a0", "=trans(6/(seq(1,3)-2))");
        c.holds("a0", "a2", "-6.0/!d/6.0");
    }

    private static void sorting() {
        Check.says("numbers first, then texts, then blanks, equal ones as they stand");
        Check c = new Check();
        String[] first = {"b", "", "2", "a", "-1", "2"};
        for (int i = 0; i < 6; i++) {
            c.put("a" + i, first[i]);
            c.put("b" + i, "" + i);
        }
        c.put("c0", "=sort(a0:b5)");
        c.holds("c0", "d5", "-1.0 4.0/2.0 2.0/2.0 5.0/'a 3.0/'b 0.0/ 1.0");
        c.put("c0", "=sort(trans(a0:a5))");
        c.holds("c0", "!s");
        c.put("c0", "=sort(a1:a2)");
        c.holds("c0", "c1", "2.0/");
        c.put("a0", "-0");
        c.put("a1", "0");
        c.put("c0", "=sort(a0:b1)");
        c.holds("c0", "d1", "-0.0 0.0/0.0 1.0");
        c.put("a0", "0");
        c.put("a1", "-0");
        c.holds("c0", "d1", "0.0 0.0/-0.0 1.0");
        String[] alike = {"x", "", "x", "", "7", "7"};
        for (int i = 0; i < 6; i++) {
            c.put("a" + i, alike[i]);
        }
        c.put("c0", "=sort(a0:b5)");
        c.holds("d0", "d5", "4.0/5.0/0.0/2.0/1.0/3.0");
        gives("=sort(7)", "7.0", "=sort(\"x\")", "'x", "=sort(a0)", "", "=sort(\"\")", "'");
        Check d = new Check();
        d.put("a0", "=sort(-seq(4))");
        d.holds("a0", "a3", "-4.0/-3.0/-2.0/-1.0");
        d.put("a0", "=sort(-seq(1,3))");
        d.holds("a0", "c0", "-1.0 -2.0 -3.0");
        d.gives("=sum(sort(-seq(60)))", "-1830.0");
    }

    private static void sortingErrors() {
        Check.says("an error in it is the result, the first one by rows");
        Check c = new Check();
        c.put("a0", "2");
        c.put("a1", "1");
        c.put("b1", "=A");
        c.put("b0", "=1/0");
        c.gives("=sort(a0:b1)", "!d");
        c.gives("=sort(a0:a1)+0", "!s");
        c.gives("=sort(a1:b1)", "!n");
        c.gives("=sort(trans(a0:b1))", "!d");
        c.gives("=sort(A)", "!n");
        c.gives("=sort(b0:b1)", "!d");
        c.gives("=sort(b1:c2)", "!n");
        c.put("b0", "");
        c.gives("=sort(a0:b1)", "!n");
    }

    private static void filtering() {
        Check.says("those rows of the first one for which the second one has a number other than 0");
        Check c = new Check();
        c.put("c0", "0");
        c.put("c1", "1");
        c.put("c2", "x");
        c.put("c4", "-0.5");
        c.put("a0", "=filter(seq(5,2),c0:c4)");
        c.holds("a0", "b2", "3.0 4.0/9.0 10.0/ ");
        c.put("c4", "=\"\"");
        c.holds("a0", "b1", "3.0 4.0/ ");
        Check.says("without such rows it is 'a'");
        c.put("c1", "");
        c.holds("a0", "b1", "!a / ");
        c.put("c1", "-0");
        c.holds("a0", "!a");
        gives("=filter(7,1)", "7.0", "=filter(7,0)", "!a", "=filter(7,\"x\")", "!a", "=filter(7,a0)", "!a",
                "=cols(filter(seq(1,5),2))", "5.0", "=sum(filter(seq(60),seq(60)))", "1830.0",
                "=filter(seq(60),seq(60)=60)", "60.0");
    }

    private static void filteringWrongShapes() {
        Check.says("which must have as many rows and one column, or it is 'v'");
        gives("=filter(seq(3),seq(2))", "!v", "=filter(seq(3),seq(4))", "!v", "=filter(seq(3),seq(3,2))", "!v",
                "=filter(seq(3),1)", "!v", "=filter(7,seq(2))", "!v", "=filter(7,seq(1,2))", "!v",
                "=filter(seq(1,3),seq(1,3))", "!v", "=sum(filter(seq(3),seq(3)))", "6.0",
                "=sum(filter(seq(3,2),seq(3)))", "21.0", "=filter(seq(3),0*seq(2))", "!v");
    }

    private static void filteringErrors() {
        Check.says("an error in the second one is the result, the first one");
        Check c = new Check();
        c.put("b0", "1");
        c.put("b1", "=1/0");
        c.put("b2", "=A");
        c.gives("=filter(seq(3),b0:b2)", "!d");
        c.gives("=filter(seq(2),b1:b2)", "!d");
        c.put("b1", "0");
        c.gives("=filter(seq(3),b0:b2)", "!n");
        c.gives("=filter(seq(4),b0:b2)", "!v");
        c.put("a0", "=1/0");
        c.put("c3", "=filter(a0:b1,b0:b1)");
        c.holds("c3", "d3", "!d 1.0");
    }

    private static void matching() {
        Check.says("the place, from 1 on, by rows, of the first thing to which the first one is equal as by '='");
        Check c = new Check();
        c.put("a0", "x");
        c.put("b0", "4");
        c.put("a1", "=1/0");
        c.put("b1", "y");
        c.put("a2", "4");
        c.put("b3", "0");
        c.gives("=match(\"x\",a0:b3)", "1.0");
        c.gives("=match(4,a0:b3)", "2.0");
        c.gives("=match(\"y\",a0:b3)", "4.0");
        c.gives("=match(0,a0:b3)", "6.0");
        c.gives("=match(\"\",a0:b3)", "6.0");
        c.gives("=match(e5,a0:b3)", "6.0");
        c.gives("=match(e5,b3:b3)", "1.0");
        c.gives("=match(\"\",b3)", "!a");
        c.gives("=match(60,seq(60))", "60.0");
        c.gives("=match(1,seq(60))", "1.0");
        c.gives("=match(3,3)", "1.0");
        Check.says("where errors are not equal");
        c.gives("=match(0,a1:a2)", "!a");
    }

    private static void matchingNothing() {
        Check.says("if the first one is an array, 'v'; without one 'a'");
        gives("=match(60,seq(60))", "60.0", "=match(61,seq(60))", "!a", "=match(3,seq(2))", "!a",
                "=match(seq(2),seq(2))", "!v", "=match(seq(2),9)", "!v", "=match(seq(1),seq(2))", "1.0",
                "=match(3,seq(2))", "!a", "=match(\"1\",seq(2))", "!a", "=match(3,4)", "!a", "=match(a0:b0,1)", "!v",
                "=match(1/(seq(2)-1),1)", "!v");
    }

    private static void allPartsFirst() {
        Check.says("all parts are worked out first, and the first one that is a single error is the result");
        gives("=seq(0,A)", "!n", "=seq(A,1/0)", "!n", "=seq(1/0,A)", "!d", "=seq(\"x\",A)", "!n", "=seq(61,A)", "!n",
                "=rows(A)", "!n", "=cols(A)", "!n", "=trans(A)", "!n", "=sort(A)", "!n", "=filter(A,1/0)", "!n",
                "=filter(1/0,A)", "!d", "=filter(seq(3),A)", "!n", "=filter(1/(seq(2)-1),A)", "!n",
                "=match(A,1/0)", "!n", "=match(1/0,A)", "!d", "=match(seq(2),A)", "!n", "=match(3,A)", "!n");
        Check c = new Check();
        c.put("f5", "=match(A,a0)");
        Check.same("readers of the second part", c.readers("a0"), 1);
        Check.says("for \"if\", the first one");
        gives("=if(A,1/0,1/0)", "!n");
    }

    private static void partCounts() {
        Check.says("or a wrong number of parts");
        gives("=if(1)", "!n", "=rows(if(1,2))", "1.0", "=if(1,2,3,4)", "!n", "=iferr(1)", "!n", "=iferr(1,2,3)", "!n",
                "=seq(1,2,3)", "!n", "=rows(1,2)", "!n", "=cols(1,2)", "!n", "=trans(1,2)", "!n", "=sort(1,2)", "!n",
                "=filter(1)", "!n", "=filter(1,1,1)", "!n", "=match(1)", "!n", "=match(1,1,1)", "!n", "=sub(a0,a1)", "!n",
                "=sum(1)", "1.0", "=max(1,2,3,4,5,6,7,8)", "8.0", "=if(1/0)", "!n", "=rows(1/0,1)", "!n",
                "=sub(1,2)", "!n");
    }

    private static void unknownFunctions() {
        Check.says("a name or a function that there is not");
        gives("=x(1)", "!n", "=summ(1)", "!n", "=su(1)", "!n", "=average(1)", "!n", "=a(1)", "!n", "=x(1/0)", "!n",
                "=iferr(x(1),5)", "5.0", "=sum(x(1))", "!n", "=A", "!n", "=F", "!n");
    }

    private static void subParts() {
        Check.says("\"sub\" has 1, which must be a reference or a range, or it is 'v'");
        Check c = new Check();
        c.put("a0", "5");
        c.put("a1", "x");
        c.put("a2", "7");
        c.name('A', "=a0");
        c.gives("=sub(a0)", "5.0");
        c.gives("=sub(a1)", "0.0");
        c.gives("=sub(b0)", "0.0");
        c.gives("=sub(a0:a2)", "12.0");
        c.put("b2", "100");
        c.put("e0", "1000");
        c.gives("=sub(a2)", "7.0");
        c.gives("=sub(b2)", "100.0");
        c.gives("=sub(e0)", "1000.0");
        c.gives("=sub(d1:f0)", "1000.0");
        c.gives("=sub((a0:a2))", "12.0");
        for (String part : new String[] {"5", "\"x\"", "A", "-a0", "a0%", "a0+0", "seq(2)", "if(1,a0)", "sub(a0)", "1/0"}) {
            c.gives("=sub(" + part + ")", "!v");
        }
        c.put("e0", "=sub(b1)");
        c.put("f0", "=sub(b0:b1)");
        c.sheet.removeRow(0, 1);
        c.holds("e0", "f0", "!r !r");
    }

    private static void subLeavesOut() {
        Check.says("rows that are hidden, and cells whose formula is a \"sub\" and nothing around it, are left out, and not read");
        Check c = new Check();
        c.put("a0", "1");
        c.put("a1", "=sub(a0)");
        c.put("a2", "=sub(a0)+0");
        c.put("a3", "=-sub(a0)");
        c.put("a4", "=sum(sub(a0))");
        c.put("a5", "10");
        c.put("b0", "=sub(a0:a5)");
        c.holds("b0", "12.0");
        Check.same("readers of a sub", c.readers("a1"), 0);
        Check.same("readers of a sum", c.readers("a4"), 1);
        c.sheet.hide(5, true);
        c.holds("b0", "2.0");
        Check.same("readers of what is hidden", c.readers("a5"), 0);
        c.put("a5", "=1/0");
        c.holds("b0", "2.0");
        c.put("c0", "=sum(a0:a4)");
        c.holds("c0", "3.0");
        c.sheet.hide(5, false);
        c.holds("b0", "!d");
        c.put("a5", "=A");
        c.put("a3", "=1/0");
        c.holds("b0", "!d");
        c.sheet.hide(3, true);
        c.holds("b0", "!n");
        c.gives("=sub(a3)", "0.0");
        subOfWrongParts();
    }

    /** Also a "sub" with a wrong number of parts, or of a wrong kind, is a "sub" and nothing around it. */
    private static void subOfWrongParts() {
        Check c = new Check();
        c.put("a0", "1");
        c.put("a1", "=sub(a0,a0)");
        c.put("a2", "=sub(5)");
        c.put("b1", "=sub(a0:a2)");
        c.holds("a1", "!n");
        c.holds("a2", "!v");
        c.holds("b1", "1.0");
        Check.same("readers of one with two parts", c.readers("a1"), 0);
        Check.same("readers of one of a number", c.readers("a2"), 0);
        c.put("a2", "=(sub(a0,a0))");
        c.holds("b1", "1.0");
        c.put("a2", "=sub(a0,a0)+0");
        c.holds("b1", "!n");
        c.put("a2", "=iferr(sub(a0,a0),2)");
        c.holds("b1", "3.0");
        c.put("a2", "=subs(a0)");
        c.holds("b1", "!n");
    }

    private static void subOfAll() {
        Check.says("however many cells there are, it is no error");
        Check c = new Check().grow();
        for (int i = 0; i < 10; i++) {
            c.put("a" + i, "1");
            c.put("g" + i, "2");
        }
        c.put("h9", "=sub(a0:h9)");
        c.holds("h9", "30.0");
        Check.same("readers of the last row", c.readers("g9"), 1);
        Check.same("readers of itself", c.readers("h9"), 0);
        c.put("h9", "=sum(a0:h8)");
        c.holds("h9", "!o");
        Check.same("all are read", c.readers("h8"), 1);
    }

    private static void namesOfNothing() {
        Check.says("A name has a formula, or nothing, which is 'n'");
        Check c = new Check();
        c.gives("=A", "!n");
        c.name('A', "=5");
        c.gives("=A", "5.0");
        c.gives("=B", "!n");
        c.name('A', "");
        c.gives("=A", "!n");
        c.name('A', "=b0");
        c.gives("=A", "");
    }

    private static void namesMeanWhatTheyMeant() {
        Check.says("its references mean what they meant when it was defined, and it is worked out where it stands");
        Check c = new Check();
        c.put("a0", "5");
        c.put("a1", "6");
        c.name('A', "=a0");
        c.put("c4", "=A");
        c.fill("c4", "d3");
        c.holds("d3", "5.0");
        c.sheet.insertRow(0, 0);
        c.holds("c5", "5.0");
        c.sheet.sortRows(0, 0, 0, 2);
        c.holds("c5", "5.0");
        c.sheet.removeRow(0, 0);
        c.holds("c4", "!r");
        c.sheet.undo(0);
        c.holds("c5", "5.0");
        c.name('A', "=seq(1,2)+f6");
        c.holds("c5", "d5", "1.0 2.0");
        Check.same("readers through a name", c.readers("f6"), 2);
    }

    private static void namesWithinNames() {
        Check.says("names within names more than 6 deep");
        Check c = new Check();
        c.name('F', "=1");
        c.name('E', "=F+1");
        c.name('D', "=E+1");
        c.name('C', "=D+1");
        c.name('B', "=C+1");
        c.name('A', "=B+1");
        c.gives("=A", "6.0");
        c.gives("=sum(A,A,-A)", "6.0");
        c.name('F', "=A");
        c.gives("=A", "!n");
        c.gives("=F", "!n");
        c.name('F', "=F");
        c.gives("=F", "!n");
        c.gives("=iferr(F,7)", "7.0");
        c.name('F', "=if(0,F,3)");
        c.gives("=F", "3.0");
        c.gives("=A", "8.0");
    }

    private static void namesInSeveralCells() {
        Check.says("it is worked out where it stands");
        Check c = new Check().grow();
        c.name('A', "=d0");
        c.name('B', "=A+1");
        c.name('C', "=A+10+d9");
        c.put("d0", "1");
        c.put("a0", "=e0+d9+B+f0");
        c.put("a1", "=A+C");
        c.put("a2", "=e9+C+f9");
        c.put("a3", "=B");
        c.holds("a0", "a3", "2.0/12.0/11.0/2.0");
        String[] cells = {"d0", "d9", "e0", "f0", "e9", "f9", "a8", "g0"};
        int[] due = {4, 3, 1, 1, 1, 1, 0, 0};
        for (int i = 0; i < cells.length; i++) {
            Check.same("readers of " + cells[i], c.readers(cells[i]), due[i]);
        }
    }
}
