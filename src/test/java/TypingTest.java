/** Promises 1 to 6: a new object, type, erase, enter, define and fill. */
public final class TypingTest {
    public static void main(String[] args) {
        newObject();
        typing();
        erasing();
        entering();
        enteringWrongly();
        defining();
        filling();
        fillingReferences();
        fillingWrongly();
        Check.end();
    }

    private static void newObject() {
        Check c = new Check();
        Check.same("rows", c.sheet.rows(), 6);
        Check.same("columns", c.sheet.columns(), 6);
        for (int row = 0; row < 6; row++) {
            for (int column = 0; column < 6; column++) {
                Check.same("contentAt", c.sheet.contentAt(row, column), 'b');
                Check.same("kindAt", c.sheet.kindAt(row, column), 'b');
                Check.same("kindByAll", c.sheet.kindByAll(row, column), 'b');
            }
        }
        Check.same("erase of a new object", c.sheet.erase(), 0);
        for (int hand = 0; hand < 3; hand++) {
            Check.same("kept of a new object", c.sheet.kept(hand), 0);
        }
        Check.same("passes of a new object", c.sheet.passes(), 0);
        Check.same("errors of a new object", c.sheet.errors(), 0);
        for (char name = 'A'; name <= 'F'; name++) {
            c.gives("=" + name, "!n");
        }
        Check.same("names of a new object", new Check().name('A', "=1"), 1);
    }

    private static void typing() {
        Check c = new Check();
        Check.illegal("type 31", () -> c.sheet.type((char) 31));
        Check.illegal("type 127", () -> c.sheet.type((char) 127));
        Check.illegal("type 65535", () -> c.sheet.type((char) 65535));
        Check.same("type ' '", c.sheet.type(' '), 1);
        Check.same("type '~'", c.sheet.type('~'), 2);
        for (int i = 3; i <= 40; i++) {
            Check.same("type", c.sheet.type('x'), i);
        }
        Check.state("type of one too many", () -> c.sheet.type('x'));
        Check.illegal("type of one too many, and wrong", () -> c.sheet.type((char) 10));
        Check.same("erase", c.sheet.erase(), 40);
        Check.same("type behind erase", c.sheet.type('x'), 1);
    }

    private static void erasing() {
        Check c = new Check();
        c.type("abc");
        Check.same("erase", c.sheet.erase(), 3);
        Check.same("erase again", c.sheet.erase(), 0);
        Check.same("enter of nothing", c.sheet.enter(0, 0, 0), 'b');
    }

    private static void entering() {
        Check c = new Check();
        String[] numbers = {"0", "7", "-7", "123456789", "-123456789.1234", "0.5", "00.0010", "1.1"};
        double[] values = {0, 7, -7, 123456789, -123456789.1234, 0.5, 0.001, 1.1};
        for (int i = 0; i < numbers.length; i++) {
            Check.same(numbers[i], c.put("a0", numbers[i]), 'n');
            Check.same(numbers[i], c.sheet.numberAt(0, 0), values[i]);
        }
        String[] texts = {"-", "1234567890", "1.", ".5", "1.12345", "1.2.3", "--1", "+1", " 1", "1 ", "x", "-x",
            " ", "\"", "1e3", "'=1", "-.5"};
        for (String text : texts) {
            Check.same(text, c.put("a0", text), 't');
            c.holds("a0", "'" + text);
        }
        Check.same("enter a formula", c.put("a0", "=1"), 'f');
        Check.same("nothing is typed behind enter", c.sheet.erase(), 0);
        Check.same("enter nothing", c.put("a0", ""), 'b');
        Check.same("contentAt", c.sheet.contentAt(0, 0), 'b');
        c.put(2, "f5", "last");
        c.holds("f5", "'last");
        Check.same("kept", c.sheet.kept(2), 1);
    }

    private static void enteringWrongly() {
        Check c = new Check();
        c.put("a0", "5");
        c.type("=1+");
        c.throwingSame("hand -1", IllegalArgumentException.class, () -> c.sheet.enter(-1, 9, 9));
        c.throwingSame("hand 3", IllegalArgumentException.class, () -> c.sheet.enter(3, 0, 0));
        c.throwingSame("row 6", IndexOutOfBoundsException.class, () -> c.sheet.enter(0, 6, 0));
        c.throwingSame("row -1", IndexOutOfBoundsException.class, () -> c.sheet.enter(0, -1, 0));
        c.throwingSame("column 6", IndexOutOfBoundsException.class, () -> c.sheet.enter(0, 0, 6));
        c.throwingSame("column -1", IndexOutOfBoundsException.class, () -> c.sheet.enter(0, 0, -1));
        c.throwingSame("wild cell", IndexOutOfBoundsException.class,
                () -> c.sheet.enter(0, Integer.MAX_VALUE, Integer.MIN_VALUE));
        c.throwingSame("no formula", UnsupportedOperationException.class, () -> c.sheet.enter(0, 0, 0));
        Check.same("still typed", c.sheet.erase(), 3);
    }

    private static void defining() {
        Check c = new Check();
        Check.same("define A", c.name('A', "=1+1"), 1);
        Check.same("nothing is typed behind define", c.sheet.erase(), 0);
        Check.same("define F", c.name('F', "=A*3"), 2);
        c.gives("=F+A", "8.0");
        Check.same("define A again", c.name('A', "=5"), 2);
        c.gives("=F+A", "20.0");
        Check.same("define nothing", c.name('A', ""), 1);
        c.gives("=F+A", "!n");
        Check.same("define nothing again", c.name('A', ""), 1);
        c.type("5");
        c.throwingSame("name @", IllegalArgumentException.class, () -> c.sheet.define('@'));
        c.throwingSame("name G", IllegalArgumentException.class, () -> c.sheet.define('G'));
        c.throwingSame("name a", IllegalArgumentException.class, () -> c.sheet.define('a'));
        c.throwingSame("a number", UnsupportedOperationException.class, () -> c.sheet.define('F'));
        Check.same("still typed", c.sheet.erase(), 1);
        c.type("x");
        c.throwingSame("a text", UnsupportedOperationException.class, () -> c.sheet.define('F'));
        c.sheet.erase();
        c.type("=1+");
        c.throwingSame("an unread formula", UnsupportedOperationException.class, () -> c.sheet.define('F'));
        Check.same("still typed", c.sheet.erase(), 3);
        Check.same("nothing was kept for names", c.sheet.kept(1), 0);
    }

    private static void filling() {
        Check c = new Check();
        c.put("a0", "5");
        c.put("a1", "x");
        Check.same("fill a number", c.fill("a0", "b3"), 0);
        Check.same("fill a text", c.fill("a1", "f5"), 0);
        c.holds("b3", "5.0");
        c.holds("f5", "'x");
        Check.same("kept", c.sheet.kept(0), 4);
        c.put("b0", "=a0+1");
        Check.same("fill onto itself", c.fill("b0", "b0"), 0);
        c.writes("b0", "=a0+1");
        Check.same("fill a formula over a text", c.fill("b0", "b1"), 0);
        c.writes("b1", "=a1+1");
        c.holds("b1", "!v");
        c.type("zz");
        c.fill("a0", "e4");
        Check.same("typed as before", c.sheet.erase(), 2);
    }

    private static void fillingReferences() {
        Check c = new Check();
        c.put("c2", "=b1+$b1+b$1+$b$1+sum(a0:$c$3)");
        Check.same("fill", c.fill("c2", "d4"), 0);
        c.writes("d4", "=(((c3+$b3)+c$1)+$b$1)+sum(b2:$c$3)");
        c.holds("d4", "0.0");
    }

    private static void fillingWrongly() {
        Check c = new Check();
        c.put("c2", "=b1");
        Check.same("fill out of the sheet", c.fill("c2", "a0"), 1);
        c.writes("a0", "=#");
        c.holds("a0", "!r");
        Check.same("what is gone goes on so", c.fill("a0", "e4"), 1);
        c.writes("e4", "=#");
        c.put("c2", "=sum(a0:b1)+a1+c2");
        Check.same("each reference counts", c.fill("c2", "a0"), 3);
        c.writes("a0", "=(sum(#)+#)+a0");
        c.put("c2", "=e1+c0");
        Check.same("beyond the right and the upper end", c.fill("c2", "e1"), 2);
        c.put("c2", "=c5+$e$1");
        Check.same("beyond the lower end", c.fill("c2", "f3"), 1);
        c.throwingSame("hand", IllegalArgumentException.class, () -> c.sheet.fill(3, 9, 9, 9, 9));
        c.throwingSame("row", IndexOutOfBoundsException.class, () -> c.sheet.fill(0, 6, 0, 0, 0));
        c.throwingSame("column", IndexOutOfBoundsException.class, () -> c.sheet.fill(0, 0, -1, 0, 0));
        c.throwingSame("other row", IndexOutOfBoundsException.class, () -> c.sheet.fill(0, 3, 3, -1, 0));
        c.throwingSame("other column", IndexOutOfBoundsException.class, () -> c.sheet.fill(0, 3, 3, 0, 6));
        c.throwingSame("nothing", java.util.NoSuchElementException.class, () -> c.sheet.fill(0, 3, 3, 0, 0));
    }
}
