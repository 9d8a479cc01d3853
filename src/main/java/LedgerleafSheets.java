import java.util.NoSuchElementException;

/** A sheet of cells that several hands write in. */
public final class LedgerleafSheets {
    private static final int MOST_TYPED = 40;
    private static final int HANDS = 3;
    private static final int MOST_KEPT = 8;
    private static final int NAMES = 6;
    private static final int FIRST_LINES = 6;
    private static final int MOST_ROWS = 10;
    private static final int MOST_COLUMNS = 8;
    private static final int MOST_CELLS = 80;
    private static final int MOST_LINES = 10;
    private static final int MOST_THINGS = 60;
    private static final int MOST_DEEP = 10;
    private static final int MOST_PASSES = 40;
    private static final int MOST_NAMES_DEEP = 6;
    // A formula and six names within it, each ten deep, have so many levels.
    private static final int MOST_LEVELS = 70;
    private static final int SLOTS = 72;
    private static final int CELLS_IN_LOW = 64;

    private static final char BLANK = 'b';
    private static final char NUMBER = 'n';
    private static final char TEXT = 't';
    private static final char FORMULA = 'f';

    private static final char REFERENCE = 'r';
    private static final char RANGE = ':';
    private static final char NAME = 'N';
    private static final char FUNCTION = 'f';
    private static final char NEGATIVE = '~';
    private static final char PERCENT = '%';
    private static final char END = '\n';

    // Errors are kept as capital letters, so that they differ from the other kinds of values.
    private static final char NO_ERROR = '-';
    private static final char BY_ZERO = 'D';
    private static final char OVERFLOW = 'O';
    private static final char WRONG_KIND = 'V';
    private static final char GONE = 'R';
    private static final char UNKNOWN = 'N';
    private static final char NOT_FOUND = 'A';
    private static final char BLOCKED = 'S';
    private static final char CIRCLE = 'C';

    private static final int NO_FUNCTION = 0;
    private static final int SUM = 1;
    private static final int MAX = 2;
    private static final int MIN = 3;
    private static final int COUNT = 4;
    private static final int IF = 5;
    private static final int IFERR = 6;
    private static final int SEQ = 7;
    private static final int ROWS = 8;
    private static final int COLS = 9;
    private static final int TRANS = 10;
    private static final int SORT = 11;
    private static final int FILTER = 12;
    private static final int MATCH = 13;
    private static final int SUB = 14;

    private static final char EDIT_CONTENT = 'e';
    private static final char EDIT_INSERT = 'i';
    private static final char EDIT_REMOVE = 'r';
    private static final char EDIT_SORT = 's';

    private final StringBuilder typed = new StringBuilder();
    private final StringBuilder written = new StringBuilder();
    private final Sheet sheet = new Sheet();
    private final Passes ordinary = new Passes(sheet, false);
    private final Passes byAll = new Passes(sheet, true);
    private final Edit[] latest = new Edit[HANDS];
    private final int[] keptCounts = new int[HANDS];

    public LedgerleafSheets() {
    }

    public int type(char character) throws IllegalArgumentException, IllegalStateException {
        if (character < ' ' || character > '~') {
            throw new IllegalArgumentException("no such character");
        }
        if (typed.length() >= MOST_TYPED) {
            throw new IllegalStateException("all is typed");
        }
        typed.append(character);
        return typed.length();
    }

    public int erase() {
        int length = typed.length();
        typed.setLength(0);
        return length;
    }

    public char enter(int hand, int row, int column)
            throws IllegalArgumentException, IndexOutOfBoundsException, UnsupportedOperationException {
        checkHand(hand);
        checkCell(row, column);
        Content content = sheet.contentFrom(typed.toString());
        if (content == null) {
            throw new UnsupportedOperationException("not a formula");
        }
        keep(hand, sheet.replace(row, column, content));
        typed.setLength(0);
        return content.kind;
    }

    public int define(char name) throws IllegalArgumentException, UnsupportedOperationException {
        int index = name - 'A';
        if (index < 0 || index >= NAMES) {
            throw new IllegalArgumentException("no such name");
        }
        Content content = sheet.contentFrom(typed.toString());
        if (content == null || content.kind == NUMBER || content.kind == TEXT) {
            throw new UnsupportedOperationException("neither a formula nor nothing");
        }
        sheet.names[index] = content.formula;
        typed.setLength(0);
        markDue();
        return sheet.countNames();
    }

    public int fill(int hand, int row, int column, int toRow, int toColumn)
            throws IllegalArgumentException, IndexOutOfBoundsException, NoSuchElementException {
        checkHand(hand);
        checkCell(row, column);
        checkCell(toRow, toColumn);
        Content content = sheet.contentIn(row, column);
        if (content.kind == BLANK) {
            throw new NoSuchElementException("no content");
        }
        Content copy = new Content(content.kind);
        copy.number = content.number;
        copy.text = content.text;
        copy.formula = sheet.copied(content.formula, toRow - row, toColumn - column, 0);
        keep(hand, sheet.replace(toRow, toColumn, copy));
        return copy.formula == null ? 0 : copy.formula.countGone(0);
    }

    public int rows() {
        return sheet.rowAxis.count;
    }

    public int columns() {
        return sheet.columnAxis.count;
    }

    public int insertRow(int hand, int place)
            throws IllegalArgumentException, IndexOutOfBoundsException, IllegalStateException {
        return insertLine(hand, sheet.rowAxis, place);
    }

    public int insertColumn(int hand, int place)
            throws IllegalArgumentException, IndexOutOfBoundsException, IllegalStateException {
        return insertLine(hand, sheet.columnAxis, place);
    }

    public int removeRow(int hand, int row)
            throws IllegalArgumentException, IndexOutOfBoundsException, IllegalStateException {
        return removeLine(hand, sheet.rowAxis, row);
    }

    public int removeColumn(int hand, int column)
            throws IllegalArgumentException, IndexOutOfBoundsException, IllegalStateException {
        return removeLine(hand, sheet.columnAxis, column);
    }

    public int sortRows(int hand, int column, int from, int to)
            throws IllegalArgumentException, IndexOutOfBoundsException {
        checkHand(hand);
        if (to < from) {
            throw new IllegalArgumentException("the last row is ahead of the first one");
        }
        checkCell(from, column);
        checkCell(to, column);
        ordinary.settle();
        Edit edit = sheet.sort(column, from, to, ordinary.now);
        keep(hand, edit);
        return edit.countMoved();
    }

    public boolean hide(int row, boolean isHidden) throws IndexOutOfBoundsException {
        if (!sheet.rowAxis.hasPlace(row)) {
            throw new IndexOutOfBoundsException("no such row");
        }
        Line line = sheet.rowAxis.lineAt(row);
        boolean wasHidden = line.isHidden;
        line.isHidden = isHidden;
        markDue();
        return wasHidden;
    }

    public int undo(int hand)
            throws IllegalArgumentException, NoSuchElementException, UnsupportedOperationException {
        checkHand(hand);
        Edit edit = latest[hand];
        if (keptCounts[hand] == 0 || edit == null) {
            throw new NoSuchElementException("nothing is kept");
        }
        if (!sheet.takeBack(edit)) {
            throw new UnsupportedOperationException("not as it was left");
        }
        latest[hand] = edit.earlier;
        keptCounts[hand]--;
        markDue();
        return keptCounts[hand];
    }

    public int kept(int hand) throws IllegalArgumentException {
        checkHand(hand);
        return keptCounts[hand];
    }

    public char kindAt(int row, int column) throws IndexOutOfBoundsException {
        checkCell(row, column);
        ordinary.settle();
        return ordinary.now.plainKind(placeOf(row, column));
    }

    public double numberAt(int row, int column) throws IndexOutOfBoundsException, NoSuchElementException {
        checkCell(row, column);
        ordinary.settle();
        return neededNumber(ordinary.now, placeOf(row, column));
    }

    public char errorAt(int row, int column) throws IndexOutOfBoundsException, NoSuchElementException {
        checkCell(row, column);
        ordinary.settle();
        int place = placeOf(row, column);
        if (!ordinary.now.isError(place)) {
            throw new NoSuchElementException("no error");
        }
        return (char) (ordinary.now.kinds[place] - 'A' + 'a');
    }

    public int textLength(int row, int column) throws IndexOutOfBoundsException, NoSuchElementException {
        checkCell(row, column);
        ordinary.settle();
        return neededText(placeOf(row, column)).length();
    }

    public char textAt(int row, int column, int index) throws IndexOutOfBoundsException, NoSuchElementException {
        checkCell(row, column);
        ordinary.settle();
        String letters = neededText(placeOf(row, column));
        if (index < 0 || index >= letters.length()) {
            throw new NoSuchElementException("no such character");
        }
        return letters.charAt(index);
    }

    public char kindByAll(int row, int column) throws IndexOutOfBoundsException {
        checkCell(row, column);
        byAll.settle();
        return byAll.now.plainKind(placeOf(row, column));
    }

    public double numberByAll(int row, int column) throws IndexOutOfBoundsException, NoSuchElementException {
        checkCell(row, column);
        byAll.settle();
        return neededNumber(byAll.now, placeOf(row, column));
    }

    public int spillOf(int row, int column) throws IndexOutOfBoundsException, NoSuchElementException {
        checkCell(row, column);
        ordinary.settle();
        int origin = ordinary.origins[placeOf(row, column)];
        if (origin < 0) {
            throw new NoSuchElementException("no array");
        }
        return 10 * (origin / MOST_COLUMNS) + origin % MOST_COLUMNS;
    }

    public int passes() {
        ordinary.settle();
        return ordinary.made;
    }

    public int workedOut() {
        ordinary.settle();
        return ordinary.worked;
    }

    public int readers(int row, int column) throws IndexOutOfBoundsException {
        checkCell(row, column);
        ordinary.settle();
        return ordinary.countReaders(placeOf(row, column));
    }

    public char contentAt(int row, int column) throws IndexOutOfBoundsException {
        checkCell(row, column);
        return sheet.contentIn(row, column).kind;
    }

    public int write(int row, int column) throws IndexOutOfBoundsException, NoSuchElementException {
        checkCell(row, column);
        Node formula = sheet.contentIn(row, column).formula;
        if (formula == null) {
            throw new NoSuchElementException("no formula");
        }
        written.setLength(0);
        written.append('=');
        formula.writeOn(written, 0);
        return written.length();
    }

    public char writtenAt(int index) throws IndexOutOfBoundsException {
        if (index < 0 || index >= written.length()) {
            throw new IndexOutOfBoundsException("no such character");
        }
        return written.charAt(index);
    }

    public int errors() {
        ordinary.settle();
        int count = 0;
        for (int row = 0; row < sheet.rowAxis.count; row++) {
            for (int column = 0; column < sheet.columnAxis.count; column++) {
                if (ordinary.now.isError(placeOf(row, column))) {
                    count++;
                }
            }
        }
        return count;
    }

    public long bitsOf(int row, int column) throws IndexOutOfBoundsException, NoSuchElementException {
        checkCell(row, column);
        ordinary.settle();
        return bitsOfNumber(neededNumber(ordinary.now, placeOf(row, column)));
    }

    public float filledShare() {
        ordinary.settle();
        int count = 0;
        for (int row = 0; row < sheet.rowAxis.count; row++) {
            for (int column = 0; column < sheet.columnAxis.count; column++) {
                if (ordinary.now.kinds[placeOf(row, column)] != BLANK) {
                    count++;
                }
            }
        }
        // There is always a row and a column, so that the divisor is at least 1.
        return (float) count / (float) (sheet.rowAxis.count * sheet.columnAxis.count);
    }

    public boolean isSound() {
        ordinary.settle();
        byAll.settle();
        for (int row = 0; row < sheet.rowAxis.count; row++) {
            for (int column = 0; column < sheet.columnAxis.count; column++) {
                if (!ordinary.now.isSameThing(placeOf(row, column), byAll.now)) {
                    return false;
                }
            }
        }
        return true;
    }

    private static int placeOf(int row, int column) {
        return row * MOST_COLUMNS + column;
    }

    private static boolean isDigit(char character) {
        return character >= '0' && character <= '9';
    }

    private static boolean isSmallLetter(char character) {
        return character >= 'a' && character <= 'z';
    }

    private static boolean isInfinite(double number) {
        return number > 1.7976931348623157E308 || number < -1.7976931348623157E308;
    }

    private static void checkHand(int hand) {
        if (hand < 0 || hand >= HANDS) {
            throw new IllegalArgumentException("no such hand");
        }
    }

    private void checkCell(int row, int column) {
        if (!sheet.hasCell(row, column)) {
            throw new IndexOutOfBoundsException("no such row or column");
        }
    }

    private int insertLine(int hand, Axis axis, int place) {
        checkHand(hand);
        if (place < 0 || place > axis.count) {
            throw new IndexOutOfBoundsException("no such place");
        }
        if (!axis.hasRoom()) {
            throw new IllegalStateException("no room");
        }
        keep(hand, sheet.insert(axis, place));
        return axis.count;
    }

    private int removeLine(int hand, Axis axis, int place) {
        checkHand(hand);
        if (!axis.hasPlace(place)) {
            throw new IndexOutOfBoundsException("no such place");
        }
        if (axis.count == 1) {
            throw new IllegalStateException("the last one");
        }
        int filled = sheet.countFilled(axis, axis.lineAt(place));
        keep(hand, sheet.remove(axis, place));
        return filled;
    }

    private void markDue() {
        ordinary.isDue = true;
        byAll.isDue = true;
    }

    private void keep(int hand, Edit edit) {
        edit.earlier = latest[hand];
        latest[hand] = edit;
        keptCounts[hand] = Math.min(MOST_KEPT, keptCounts[hand] + 1);
        markDue();
    }

    private static double neededNumber(Values values, int place) {
        if (values.kinds[place] != NUMBER) {
            throw new NoSuchElementException("no number");
        }
        return values.numbers[place];
    }

    private String neededText(int place) {
        if (ordinary.now.kinds[place] != TEXT) {
            throw new NoSuchElementException("no text");
        }
        return ordinary.now.lettersOf(place);
    }

    private static long bitsOfNumber(double number) {
        if (number == 0.0) {
            // Only the quotient tells -0.0 from 0.0: it is an infinity with its sign.
            return 1.0 / number < 0.0 ? 1L << 63 : 0L;
        }
        long sign = number < 0.0 ? 1L << 63 : 0L;
        double size = number < 0.0 ? -number : number;
        int exponent = 0;
        for (int step = 0; step < 1100 && size >= 2.0; step++) {
            size = size / 2.0;
            exponent++;
        }
        // Below -1022 a double has no exponent of its own, so the scaling stops there.
        for (int step = 0; step < 1022 && size < 1.0; step++) {
            size = size * 2.0;
            exponent--;
        }
        boolean isSubnormal = size < 1.0;
        double fraction = isSubnormal ? size : size - 1.0;
        long biased = isSubnormal ? 0L : exponent + 1023L;
        return sign | biased << 52 | (long) (fraction * 4503599627370496.0);
    }

    /** A text as an object, so that arrays can hold texts. */
    private static final class Text {
        final String letters;

        Text(String letters) {
            this.letters = letters;
        }

        static int compare(String one, String other) {
            int shared = Math.min(one.length(), other.length());
            for (int i = 0; i < shared; i++) {
                if (one.charAt(i) != other.charAt(i)) {
                    return one.charAt(i) - other.charAt(i);
                }
            }
            return one.length() - other.length();
        }
    }

    /** A row or a column, which stays itself wherever it goes, and also when it is gone. */
    private static final class Line {
        int place = -1;
        int offset = -1;
        boolean isHidden;

        boolean isGone() {
            return place < 0;
        }
    }

    /** The rows, or the columns, in their order. */
    private static final class Axis {
        final Line[] lines;
        final Line nowhere = new Line();
        final int step;
        int count;

        Axis(int most, int step) {
            this.lines = new Line[most];
            this.step = step;
            this.count = FIRST_LINES;
            for (int place = 0; place < FIRST_LINES; place++) {
                Line line = new Line();
                line.place = place;
                line.offset = place * step;
                lines[place] = line;
            }
        }

        boolean hasPlace(int place) {
            return place >= 0 && place < count;
        }

        boolean hasRoom() {
            return count < lines.length;
        }

        Line lineAt(int place) {
            return place >= 0 && place < count ? lines[place] : nowhere;
        }

        void putIn(int place, Line line) {
            if (!hasRoom() || place < 0 || place > count) {
                return;
            }
            line.offset = freeOffset();
            for (int at = count; at > place; at--) {
                lines[at] = lines[at - 1];
            }
            lines[place] = line;
            count++;
            tellPlaces();
        }

        void takeOut(Line line) {
            if (line.isGone()) {
                return;
            }
            for (int at = line.place; at + 1 < count; at++) {
                lines[at] = lines[at + 1];
            }
            count--;
            line.place = -1;
            line.offset = -1;
            tellPlaces();
        }

        void arrange(int from, Line[] order) {
            for (int i = 0; i < order.length && from + i < count; i++) {
                lines[from + i] = order[i];
            }
            tellPlaces();
        }

        boolean isArranged(int from, Line[] order) {
            if (from + order.length > count) {
                return false;
            }
            for (int i = 0; i < order.length; i++) {
                if (lines[from + i] != order[i]) {
                    return false;
                }
            }
            return true;
        }

        private void tellPlaces() {
            for (int place = 0; place < count; place++) {
                lines[place].place = place;
            }
        }

        private int freeOffset() {
            for (int i = 0; i < lines.length; i++) {
                if (!isTaken(i * step)) {
                    return i * step;
                }
            }
            return 0;
        }

        private boolean isTaken(int offset) {
            for (int place = 0; place < count; place++) {
                if (lines[place].offset == offset) {
                    return true;
                }
            }
            return false;
        }
    }

    /** A part of a formula, with its own parts. */
    private static final class Node {
        final char kind;
        final Node[] parts;
        final int depth;
        String letters = "";
        Text text;
        double number;
        int code;
        Line row;
        Line column;
        boolean isRowFixed;
        boolean isColumnFixed;

        Node(char kind, Node[] parts) {
            this.kind = kind;
            this.parts = parts;
            int deepest = 0;
            for (Node part : parts) {
                deepest = Math.max(deepest, part.depth);
            }
            // A range is one thing, though it is told by two references.
            this.depth = kind == RANGE ? 1 : deepest + 1;
        }

        boolean isGone() {
            if (kind == RANGE) {
                return parts[0].isGoneReference() || parts[1].isGoneReference();
            }
            return isGoneReference();
        }

        private boolean isGoneReference() {
            return kind == REFERENCE && (row.place < 0 || column.place < 0);
        }

        int countGone(int level) {
            if (level > MOST_DEEP) {
                return 0;
            }
            int count = isGoneReference() ? 1 : 0;
            for (Node part : parts) {
                count += part.countGone(level + 1);
            }
            return count;
        }

        int top() {
            return kind == RANGE ? Math.min(parts[0].row.place, parts[1].row.place) : row.place;
        }

        int bottom() {
            return kind == RANGE ? Math.max(parts[0].row.place, parts[1].row.place) : row.place;
        }

        int left() {
            return kind == RANGE ? Math.min(parts[0].column.place, parts[1].column.place) : column.place;
        }

        int right() {
            return kind == RANGE ? Math.max(parts[0].column.place, parts[1].column.place) : column.place;
        }

        boolean isSub() {
            return kind == FUNCTION && code == SUB;
        }

        boolean hasRightParts() {
            switch (code) {
                case SUM:
                case MAX:
                case MIN:
                case COUNT:
                    return true;
                case IF:
                    return parts.length == 2 || parts.length == 3;
                case SEQ:
                    return parts.length == 1 || parts.length == 2;
                case IFERR:
                case FILTER:
                case MATCH:
                    return parts.length == 2;
                case ROWS:
                case COLS:
                case TRANS:
                case SORT:
                case SUB:
                    return parts.length == 1;
                default:
                    return false;
            }
        }

        void writeOn(StringBuilder page, int level) {
            if (level > MOST_DEEP) {
                return;
            }
            switch (kind) {
                case NUMBER:
                case NAME:
                    page.append(letters);
                    break;
                case TEXT:
                    page.append('"').append(letters).append('"');
                    break;
                case REFERENCE:
                case RANGE:
                    writePlaces(page);
                    break;
                case FUNCTION:
                    page.append(letters);
                    writeParts(page, level);
                    break;
                case NEGATIVE:
                    page.append('-');
                    parts[0].writeOn(page, level + 1);
                    break;
                case PERCENT:
                    parts[0].writeOn(page, level + 1);
                    page.append('%');
                    break;
                default:
                    writePair(page, level);
                    break;
            }
        }

        private void writeParts(StringBuilder page, int level) {
            for (int i = 0; i < parts.length; i++) {
                page.append(i == 0 ? '(' : ',');
                parts[i].writeOn(page, level + 1);
            }
            page.append(')');
        }

        private void writePair(StringBuilder page, int level) {
            if (level > 0) {
                page.append('(');
            }
            parts[0].writeOn(page, level + 1);
            page.append(kind);
            parts[1].writeOn(page, level + 1);
            if (level > 0) {
                page.append(')');
            }
        }

        private void writePlaces(StringBuilder page) {
            if (isGone()) {
                page.append('#');
            } else if (kind == RANGE) {
                parts[0].writeReference(page);
                page.append(':');
                parts[1].writeReference(page);
            } else {
                writeReference(page);
            }
        }

        private void writeReference(StringBuilder page) {
            if (isColumnFixed) {
                page.append('$');
            }
            page.append((char) ('a' + column.place));
            if (isRowFixed) {
                page.append('$');
            }
            page.append((char) ('0' + row.place));
        }
    }

    /** What was entered or filled into a cell at one time; another time makes another one. */
    private static final class Content {
        final char kind;
        double number;
        Text text;
        Node formula;

        Content(char kind) {
            this.kind = kind;
        }
    }

    /** An edit of a hand, with what is needed to undo it. */
    private static final class Edit {
        final char kind;
        Edit earlier;
        Axis axis;
        Line line;
        Line crossing;
        int place;
        Content before;
        Content after;
        Line[] lines;
        Line[] later;
        Content[] contents;

        Edit(char kind) {
            this.kind = kind;
        }

        int countMoved() {
            int count = 0;
            for (int i = 0; i < lines.length && i < later.length; i++) {
                if (lines[i] != later[i]) {
                    count++;
                }
            }
            return count;
        }
    }

    /** The rows, columns, contents and names. */
    private static final class Sheet {
        final Axis rowAxis = new Axis(MOST_ROWS, MOST_COLUMNS);
        final Axis columnAxis = new Axis(MOST_COLUMNS, 1);
        final Content[] cells = new Content[MOST_CELLS];
        // Empty cells share one content, for one empty cell is as good as another one.
        final Content nothing = new Content(BLANK);
        final Node[] names = new Node[NAMES];

        Sheet() {
            for (int cell = 0; cell < MOST_CELLS; cell++) {
                cells[cell] = nothing;
            }
        }

        boolean hasCell(int row, int column) {
            return rowAxis.hasPlace(row) && columnAxis.hasPlace(column);
        }

        Content contentIn(int row, int column) {
            return contentOf(rowAxis.lineAt(row), columnAxis.lineAt(column));
        }

        // A row's and a column's offset make a cell's index in either order.
        Content contentOf(Line line, Line crossing) {
            if (line.place < 0 || crossing.place < 0) {
                return nothing;
            }
            return cells[line.offset + crossing.offset];
        }

        void put(Line line, Line crossing, Content content) {
            if (!line.isGone() && !crossing.isGone()) {
                cells[line.offset + crossing.offset] = content;
            }
        }

        int countNames() {
            int count = 0;
            for (Node name : names) {
                if (name != null) {
                    count++;
                }
            }
            return count;
        }

        Content contentFrom(String letters) {
            if (letters.isEmpty()) {
                return nothing;
            }
            if (letters.charAt(0) == '=') {
                Node formula = new FormulaReader(this, letters).formula();
                if (formula == null) {
                    return null;
                }
                Content content = new Content(FORMULA);
                content.formula = formula;
                return content;
            }
            int from = letters.charAt(0) == '-' ? 1 : 0;
            if (FormulaReader.endOfNumber(letters, from) == letters.length()) {
                Content content = new Content(NUMBER);
                double size = FormulaReader.numberIn(letters, from, letters.length());
                content.number = from == 1 ? -size : size;
                return content;
            }
            Content content = new Content(TEXT);
            content.text = new Text(letters);
            return content;
        }

        Edit replace(int row, int column, Content content) {
            Edit edit = new Edit(EDIT_CONTENT);
            edit.line = rowAxis.lineAt(row);
            edit.crossing = columnAxis.lineAt(column);
            edit.before = contentOf(edit.line, edit.crossing);
            edit.after = content;
            put(edit.line, edit.crossing, content);
            return edit;
        }

        Axis crossingOf(Axis axis) {
            return axis == rowAxis ? columnAxis : rowAxis;
        }

        int countFilled(Axis axis, Line line) {
            Axis others = crossingOf(axis);
            int count = 0;
            for (int place = 0; place < others.count; place++) {
                if (contentOf(line, others.lineAt(place)).kind != BLANK) {
                    count++;
                }
            }
            return count;
        }

        Edit insert(Axis axis, int place) {
            Edit edit = new Edit(EDIT_INSERT);
            edit.axis = axis;
            edit.line = new Line();
            axis.putIn(place, edit.line);
            return edit;
        }

        Edit remove(Axis axis, int place) {
            Axis others = crossingOf(axis);
            Edit edit = new Edit(EDIT_REMOVE);
            edit.axis = axis;
            edit.line = axis.lineAt(place);
            edit.place = place;
            edit.lines = new Line[others.count];
            edit.contents = new Content[others.count];
            for (int at = 0; at < others.count; at++) {
                edit.lines[at] = others.lineAt(at);
                edit.contents[at] = contentOf(edit.line, edit.lines[at]);
            }
            takeOut(axis, edit.line);
            return edit;
        }

        private void takeOut(Axis axis, Line line) {
            Axis others = crossingOf(axis);
            for (int place = 0; place < others.count; place++) {
                put(line, others.lineAt(place), nothing);
            }
            axis.takeOut(line);
        }

        Edit sort(int column, int from, int to, Values values) {
            Edit edit = new Edit(EDIT_SORT);
            int size = Math.min(MOST_ROWS, Math.max(0, to - from + 1));
            edit.place = from;
            edit.lines = new Line[size];
            edit.later = new Line[size];
            for (int i = 0; i < size; i++) {
                edit.lines[i] = rowAxis.lineAt(from + i);
                int at = i;
                int place = placeOf(from + i, column);
                while (at > 0 && values.isAfter(placeOf(edit.later[at - 1].place, column), place)) {
                    edit.later[at] = edit.later[at - 1];
                    at--;
                }
                edit.later[at] = edit.lines[i];
            }
            rowAxis.arrange(from, edit.later);
            return edit;
        }

        boolean takeBack(Edit edit) {
            switch (edit.kind) {
                case EDIT_CONTENT:
                    return takeBackContent(edit);
                case EDIT_INSERT:
                    return takeBackInsert(edit);
                case EDIT_REMOVE:
                    return takeBackRemove(edit);
                default:
                    return takeBackSort(edit);
            }
        }

        private boolean takeBackContent(Edit edit) {
            if (edit.line.isGone() || edit.crossing.isGone()
                    || contentOf(edit.line, edit.crossing) != edit.after) {
                return false;
            }
            put(edit.line, edit.crossing, edit.before);
            return true;
        }

        private boolean takeBackInsert(Edit edit) {
            if (edit.line.isGone() || edit.axis.count == 1 || countFilled(edit.axis, edit.line) > 0) {
                return false;
            }
            takeOut(edit.axis, edit.line);
            return true;
        }

        private boolean takeBackRemove(Edit edit) {
            if (!edit.line.isGone() || !edit.axis.hasRoom()) {
                return false;
            }
            edit.axis.putIn(Math.min(edit.place, edit.axis.count), edit.line);
            for (int i = 0; i < edit.lines.length; i++) {
                put(edit.line, edit.lines[i], edit.contents[i]);
            }
            return true;
        }

        private boolean takeBackSort(Edit edit) {
            if (!rowAxis.isArranged(edit.place, edit.later)) {
                return false;
            }
            rowAxis.arrange(edit.place, edit.lines);
            return true;
        }

        Node copied(Node node, int down, int right, int level) {
            if (node == null || level > MOST_DEEP) {
                return null;
            }
            Node[] parts = new Node[node.parts.length];
            for (int i = 0; i < parts.length; i++) {
                parts[i] = copied(node.parts[i], down, right, level + 1);
            }
            Node copy = new Node(node.kind, parts);
            copy.letters = node.letters;
            copy.text = node.text;
            copy.number = node.number;
            copy.code = node.code;
            copy.isRowFixed = node.isRowFixed;
            copy.isColumnFixed = node.isColumnFixed;
            if (node.kind == REFERENCE) {
                copy.row = moved(rowAxis, node.row, node.isRowFixed ? 0 : down);
                copy.column = moved(columnAxis, node.column, node.isColumnFixed ? 0 : right);
            }
            return copy;
        }

        private static Line moved(Axis axis, Line line, int distance) {
            return line.isGone() || distance == 0 ? line : axis.lineAt(line.place + distance);
        }
    }

    /** Reads what is typed as a formula; null stands for what can not be read. */
    private static final class FormulaReader {
        final Sheet sheet;
        final String typed;
        int position;

        FormulaReader(Sheet sheet, String typed) {
            this.sheet = sheet;
            this.typed = typed;
        }

        Node formula() {
            position = 1;
            Node node = expression(0);
            boolean isRead = node != null && position == typed.length() && node.depth <= MOST_DEEP;
            return isRead ? node : null;
        }

        private char after(int distance) {
            int at = position + distance;
            return at >= 0 && at < typed.length() ? typed.charAt(at) : END;
        }

        private Node expression(int nesting) {
            if (nesting > MOST_TYPED) {
                return null;
            }
            Node left = sum(nesting);
            char sign = after(0);
            if (left == null || (sign != '<' && sign != '=')) {
                return left;
            }
            position++;
            return pair(sign, left, sum(nesting));
        }

        private Node sum(int nesting) {
            Node left = product(nesting);
            for (int count = 0; count < MOST_TYPED && left != null; count++) {
                char sign = after(0);
                if (sign != '+' && sign != '-') {
                    return left;
                }
                position++;
                left = pair(sign, left, product(nesting));
            }
            return left;
        }

        private Node product(int nesting) {
            Node left = signed(nesting);
            for (int count = 0; count < MOST_TYPED && left != null; count++) {
                char sign = after(0);
                if (sign != '*' && sign != '/') {
                    return left;
                }
                position++;
                left = pair(sign, left, signed(nesting));
            }
            return left;
        }

        private Node signed(int nesting) {
            if (nesting > MOST_TYPED) {
                return null;
            }
            if (after(0) == '-') {
                position++;
                return single(NEGATIVE, signed(nesting + 1));
            }
            Node node = thing(nesting);
            for (int count = 0; count < MOST_TYPED && node != null && after(0) == '%'; count++) {
                position++;
                node = single(PERCENT, node);
            }
            return node;
        }

        private Node thing(int nesting) {
            char first = after(0);
            char second = after(1);
            if (first == '(') {
                position++;
                Node inner = expression(nesting + 1);
                return isPassed(')') ? inner : null;
            }
            if (first == '"') {
                return textThing();
            }
            if (isDigit(first)) {
                return numberThing();
            }
            if (first >= 'A' && first < 'A' + NAMES) {
                return nameThing();
            }
            if (first == '$' || isSmallLetter(first) && (second == '$' || isDigit(second))) {
                return places();
            }
            return isSmallLetter(first) ? function(nesting) : null;
        }

        private boolean isPassed(char wanted) {
            if (after(0) != wanted) {
                return false;
            }
            position++;
            return true;
        }

        private static Node single(char kind, Node part) {
            return part == null ? null : new Node(kind, new Node[] {part});
        }

        private static Node pair(char kind, Node left, Node right) {
            return left == null || right == null ? null : new Node(kind, new Node[] {left, right});
        }

        private Node textThing() {
            int from = position + 1;
            int end = from;
            while (end < typed.length() && typed.charAt(end) != '"') {
                end++;
            }
            if (end >= typed.length()) {
                return null;
            }
            position = end + 1;
            Node node = new Node(TEXT, new Node[0]);
            node.letters = typed.substring(from, end);
            node.text = new Text(node.letters);
            return node;
        }

        private Node numberThing() {
            int end = endOfNumber(typed, position);
            if (end < 0) {
                return null;
            }
            Node node = new Node(NUMBER, new Node[0]);
            node.letters = typed.substring(position, end);
            node.number = numberIn(typed, position, end);
            position = end;
            return node;
        }

        private Node nameThing() {
            Node node = new Node(NAME, new Node[0]);
            node.letters = typed.substring(position, position + 1);
            node.code = after(0) - 'A';
            position++;
            return node;
        }

        private Node places() {
            Node first = reference();
            return isPassed(':') ? pair(RANGE, first, reference()) : first;
        }

        private Node reference() {
            boolean isColumnFixed = isPassed('$');
            int column = after(0) - 'a';
            position++;
            boolean isRowFixed = isPassed('$');
            int row = after(0) - '0';
            position++;
            if (!sheet.hasCell(row, column)) {
                return null;
            }
            Node node = new Node(REFERENCE, new Node[0]);
            node.row = sheet.rowAxis.lineAt(row);
            node.column = sheet.columnAxis.lineAt(column);
            node.isRowFixed = isRowFixed;
            node.isColumnFixed = isColumnFixed;
            return node;
        }

        private Node function(int nesting) {
            int from = position;
            for (int count = 0; count < MOST_TYPED && isSmallLetter(after(0)); count++) {
                position++;
            }
            String letters = typed.substring(from, position);
            if (!isPassed('(')) {
                return null;
            }
            Node[] found = new Node[MOST_TYPED];
            int count = 0;
            do {
                Node part = expression(nesting + 1);
                if (part == null) {
                    return null;
                }
                found[count] = part;
                count++;
            } while (count < MOST_TYPED && isPassed(','));
            if (!isPassed(')')) {
                return null;
            }
            Node[] parts = new Node[count];
            System.arraycopy(found, 0, parts, 0, count);
            Node node = new Node(FUNCTION, parts);
            node.letters = letters;
            node.code = functionOf(letters);
            return node;
        }

        private static int functionOf(String letters) {
            return letters.equals("sum") ? SUM
                    : letters.equals("max") ? MAX
                    : letters.equals("min") ? MIN
                    : letters.equals("count") ? COUNT
                    : letters.equals("if") ? IF
                    : letters.equals("iferr") ? IFERR
                    : letters.equals("seq") ? SEQ
                    : letters.equals("rows") ? ROWS
                    : letters.equals("cols") ? COLS
                    : letters.equals("trans") ? TRANS
                    : letters.equals("sort") ? SORT
                    : letters.equals("filter") ? FILTER
                    : letters.equals("match") ? MATCH
                    : letters.equals("sub") ? SUB
                    : NO_FUNCTION;
        }

        /** Where the digits from a position on end as a number, or -1 if they are none. */
        static int endOfNumber(String letters, int from) {
            int end = endOfDigits(letters, from);
            if (end == from || end - from > 9) {
                return -1;
            }
            if (end >= letters.length() || letters.charAt(end) != '.') {
                return end;
            }
            int last = endOfDigits(letters, end + 1);
            int decimals = last - end - 1;
            return decimals < 1 || decimals > 4 ? -1 : last;
        }

        private static int endOfDigits(String letters, int from) {
            int end = from;
            while (end < letters.length() && isDigit(letters.charAt(end))) {
                end++;
            }
            return end;
        }

        // All digits make a whole number that is exact, so that one division gives the nearest double.
        static double numberIn(String letters, int from, int end) {
            long digits = 0;
            long scale = 1;
            boolean isBehindPoint = false;
            for (int i = from; i < end && i < letters.length(); i++) {
                char character = letters.charAt(i);
                if (character == '.') {
                    isBehindPoint = true;
                } else {
                    digits = digits * 10 + (character - '0');
                    scale = isBehindPoint ? scale * 10 : scale;
                }
            }
            return (double) digits / (double) scale;
        }
    }

    /** Things with rows and columns: a single value, an array, or those of all cells. */
    private static final class Values {
        final char[] kinds;
        final double[] numbers;
        final Text[] texts;
        int height = 1;
        int width = 1;

        Values(int most) {
            kinds = new char[most];
            numbers = new double[most];
            texts = new Text[most];
            for (int at = 0; at < most; at++) {
                kinds[at] = BLANK;
            }
        }

        void shape(int rows, int columns) {
            height = rows;
            width = columns;
        }

        int size() {
            return height * width;
        }

        boolean isSingle() {
            return height == 1 && width == 1;
        }

        boolean isError(int at) {
            return kinds[at] >= 'A' && kinds[at] <= 'Z';
        }

        boolean isSingleError() {
            return isSingle() && isError(0);
        }

        char plainKind(int at) {
            return isError(at) ? 'e' : kinds[at];
        }

        String lettersOf(int at) {
            Text text = texts[at];
            return text == null ? "" : text.letters;
        }

        void setNumber(int at, double number) {
            kinds[at] = NUMBER;
            numbers[at] = number;
            texts[at] = null;
        }

        void setText(int at, Text text) {
            kinds[at] = TEXT;
            numbers[at] = 0.0;
            texts[at] = text;
        }

        // A blank thing keeps 0 as its number, which it stands for in reckoning; so do the errors.
        void setEmpty(int at, char kind) {
            kinds[at] = kind;
            numbers[at] = 0.0;
            texts[at] = null;
        }

        void setThing(int at, Values from, int fromAt) {
            kinds[at] = from.kinds[fromAt];
            numbers[at] = from.numbers[fromAt];
            texts[at] = from.texts[fromAt];
        }

        void setResult(int at, double number) {
            if (isInfinite(number)) {
                setEmpty(at, OVERFLOW);
            } else {
                // Adding 0.0 makes 0.0 of -0.0.
                setNumber(at, number + 0.0);
            }
        }

        void becomeNumber(double number) {
            height = 1;
            width = 1;
            kinds[0] = NUMBER;
            numbers[0] = number;
            texts[0] = null;
        }

        void becomeError(char error) {
            height = 1;
            width = 1;
            kinds[0] = error;
            numbers[0] = 0.0;
            texts[0] = null;
        }

        void becomeThing(Values from, int fromAt) {
            shape(1, 1);
            setThing(0, from, fromAt);
        }

        void become(Values from) {
            shape(from.height, from.width);
            int size = size();
            for (int at = 0; at < size; at++) {
                setThing(at, from, at);
            }
        }

        boolean isSameThing(int at, Values other) {
            if (kinds[at] != other.kinds[at]) {
                return false;
            }
            if (kinds[at] == TEXT) {
                return lettersOf(at).equals(other.lettersOf(at));
            }
            return kinds[at] != NUMBER || numbers[at] == other.numbers[at];
        }

        boolean isSame(Values other) {
            if (height != other.height || width != other.width) {
                return false;
            }
            int size = size();
            for (int at = 0; at < size; at++) {
                if (!isSameThing(at, other)) {
                    return false;
                }
            }
            return true;
        }

        boolean isLess(int at, Values other, int otherAt) {
            char kind = kinds[at];
            char otherKind = other.kinds[otherAt];
            if (kind != TEXT && otherKind != TEXT) {
                return numbers[at] < other.numbers[otherAt];
            }
            if (kind == NUMBER || otherKind == NUMBER) {
                return kind == NUMBER;
            }
            return Text.compare(lettersOf(at), other.lettersOf(otherAt)) < 0;
        }

        boolean isEqual(int at, Values other, int otherAt) {
            char kind = kinds[at];
            char otherKind = other.kinds[otherAt];
            if (kind != TEXT && otherKind != TEXT) {
                return numbers[at] == other.numbers[otherAt];
            }
            return kind != NUMBER && otherKind != NUMBER && lettersOf(at).equals(other.lettersOf(otherAt));
        }

        private int rankOf(int at) {
            switch (kinds[at]) {
                case NUMBER:
                    return 0;
                case TEXT:
                    return 1;
                case BLANK:
                    return 2;
                default:
                    return 3;
            }
        }

        boolean isAfter(int at, int otherAt) {
            int rank = rankOf(at);
            int otherRank = rankOf(otherAt);
            if (rank != otherRank) {
                return rank > otherRank;
            }
            if (rank == 0) {
                return numbers[at] > numbers[otherAt];
            }
            return rank == 1 && Text.compare(lettersOf(at), lettersOf(otherAt)) > 0;
        }
    }

    /** Works formulas out with the values that cells have, and notes which cells are read. */
    private static final class Reckoner {
        final Sheet sheet;
        // Each open level of a formula has a slot of its own, which is made once and used again.
        final Values[] slots = new Values[SLOTS];
        final int[] order = new int[MOST_THINGS];
        // A name is worked out once in a pass at each level: names within names would multiply the work.
        final Values[] named = new Values[NAMES * MOST_NAMES_DEEP];
        final boolean[] isNamed = new boolean[NAMES * MOST_NAMES_DEEP];
        final long[] namedLow = new long[NAMES * MOST_NAMES_DEEP];
        final long[] namedHigh = new long[NAMES * MOST_NAMES_DEEP];
        Values now;
        long low;
        long high;

        Reckoner(Sheet sheet) {
            this.sheet = sheet;
        }

        void startPass(Values values) {
            now = values;
            for (int i = 0; i < isNamed.length; i++) {
                isNamed[i] = false;
            }
        }

        Values workOut(Node formula) {
            low = 0;
            high = 0;
            work(formula, 0, 0, 0);
            return slotAt(0);
        }

        private Values slotAt(int slot) {
            int at = Math.max(0, Math.min(SLOTS - 1, slot));
            if (slots[at] == null) {
                slots[at] = new Values(MOST_THINGS);
            }
            return slots[at];
        }

        private void noteRead(int place) {
            if (place < CELLS_IN_LOW) {
                low |= 1L << place;
            } else {
                high |= 1L << (place - CELLS_IN_LOW);
            }
        }

        private void work(Node node, int slot, int depth, int namesDeep) {
            Values here = slotAt(slot);
            if (depth > MOST_LEVELS) {
                here.becomeError(UNKNOWN);
                return;
            }
            switch (node.kind) {
                case NUMBER:
                    here.becomeNumber(node.number);
                    break;
                case TEXT:
                    here.shape(1, 1);
                    here.setText(0, node.text);
                    break;
                case REFERENCE:
                    workReference(node, here);
                    break;
                case RANGE:
                    workRange(node, here);
                    break;
                case NAME:
                    workName(node, slot, depth, namesDeep);
                    break;
                case FUNCTION:
                    workFunction(node, slot, depth, namesDeep);
                    break;
                case NEGATIVE:
                case PERCENT:
                    work(node.parts[0], slot, depth + 1, namesDeep);
                    changeThings(node.kind, here);
                    break;
                default:
                    workPair(node, slot, depth, namesDeep);
                    break;
            }
        }

        private void workReference(Node node, Values here) {
            if (node.isGone()) {
                here.becomeError(GONE);
                return;
            }
            int place = placeOf(node.row.place, node.column.place);
            noteRead(place);
            here.becomeThing(now, place);
        }

        private void workRange(Node node, Values here) {
            if (node.isGone()) {
                here.becomeError(GONE);
                return;
            }
            int top = node.top();
            int left = node.left();
            int height = node.bottom() - top + 1;
            int width = node.right() - left + 1;
            boolean isHeld = height * width <= MOST_THINGS;
            for (int row = 0; row < height; row++) {
                for (int column = 0; column < width; column++) {
                    int place = placeOf(top + row, left + column);
                    noteRead(place);
                    if (isHeld) {
                        here.setThing(row * width + column, now, place);
                    }
                }
            }
            if (isHeld) {
                here.shape(height, width);
            } else {
                here.becomeError(OVERFLOW);
            }
        }

        private void workName(Node node, int slot, int depth, int namesDeep) {
            Values here = slotAt(slot);
            Node formula = sheet.names[node.code];
            if (formula == null || namesDeep >= MOST_NAMES_DEEP) {
                here.becomeError(UNKNOWN);
                return;
            }
            int at = node.code * MOST_NAMES_DEEP + namesDeep;
            if (!isNamed[at]) {
                long lowAhead = low;
                long highAhead = high;
                low = 0;
                high = 0;
                work(formula, slot, depth + 1, namesDeep + 1);
                keepName(at, here);
                low = lowAhead;
                high = highAhead;
            }
            here.become(named[at]);
            low |= namedLow[at];
            high |= namedHigh[at];
        }

        private void keepName(int at, Values result) {
            if (named[at] == null) {
                named[at] = new Values(MOST_THINGS);
            }
            named[at].become(result);
            namedLow[at] = low;
            namedHigh[at] = high;
            isNamed[at] = true;
        }

        private void changeThings(char sign, Values here) {
            int size = here.size();
            for (int at = 0; at < size; at++) {
                if (here.kinds[at] == TEXT) {
                    here.setEmpty(at, WRONG_KIND);
                } else if (!here.isError(at)) {
                    here.setResult(at, sign == NEGATIVE ? -here.numbers[at] : here.numbers[at] / 100.0);
                }
            }
        }

        private void workPair(Node node, int slot, int depth, int namesDeep) {
            Values here = slotAt(slot);
            Values other = slotAt(slot + 1);
            work(node.parts[0], slot, depth + 1, namesDeep);
            work(node.parts[1], slot + 1, depth + 1, namesDeep);
            boolean isOne = here.isSingle();
            boolean isOtherOne = other.isSingle();
            if (!isOne && !isOtherOne && (here.height != other.height || here.width != other.width)) {
                here.becomeError(WRONG_KIND);
                return;
            }
            if (isOne) {
                here.shape(other.height, other.width);
            }
            // From the last one on, for the single thing stands where the first result goes.
            for (int at = here.size() - 1; at >= 0; at--) {
                combine(node.kind, here, isOne ? 0 : at, other, isOtherOne ? 0 : at, at);
            }
        }

        private static void combine(char sign, Values here, int one, Values other, int two, int at) {
            if (here.isError(one)) {
                here.setThing(at, here, one);
            } else if (other.isError(two)) {
                here.setThing(at, other, two);
            } else if (sign == '<') {
                here.setNumber(at, here.isLess(one, other, two) ? 1.0 : 0.0);
            } else if (sign == '=') {
                here.setNumber(at, here.isEqual(one, other, two) ? 1.0 : 0.0);
            } else if (here.kinds[one] == TEXT || other.kinds[two] == TEXT) {
                here.setEmpty(at, WRONG_KIND);
            } else if (sign == '/' && other.numbers[two] == 0.0) {
                here.setEmpty(at, BY_ZERO);
            } else {
                here.setResult(at, reckoned(sign, here.numbers[one], other.numbers[two]));
            }
        }

        // A division comes here only with a divisor other than 0.
        private static double reckoned(char sign, double one, double two) {
            switch (sign) {
                case '+':
                    return one + two;
                case '-':
                    return one - two;
                case '*':
                    return one * two;
                default:
                    return two == 0.0 ? 0.0 : one / two;
            }
        }

        private void workFunction(Node node, int slot, int depth, int namesDeep) {
            if (!node.hasRightParts()) {
                slotAt(slot).becomeError(UNKNOWN);
                return;
            }
            switch (node.code) {
                case SUM:
                case MAX:
                case MIN:
                case COUNT:
                    workTotal(node, slot, depth, namesDeep);
                    break;
                case SUB:
                    workSub(node.parts[0], slotAt(slot));
                    break;
                case IF:
                    workIf(node, slot, depth, namesDeep);
                    break;
                case IFERR:
                    work(node.parts[0], slot, depth + 1, namesDeep);
                    if (slotAt(slot).isSingleError()) {
                        work(node.parts[1], slot, depth + 1, namesDeep);
                    }
                    break;
                default:
                    workWhole(node, slot, depth, namesDeep);
                    break;
            }
        }

        private void workTotal(Node node, int slot, int depth, int namesDeep) {
            Values here = slotAt(slot);
            char error = NO_ERROR;
            double total = 0.0;
            int count = 0;
            for (Node part : node.parts) {
                work(part, slot, depth + 1, namesDeep);
                int size = here.size();
                for (int at = 0; at < size; at++) {
                    if (here.isError(at) && error == NO_ERROR) {
                        error = here.kinds[at];
                    } else if (here.kinds[at] == NUMBER) {
                        total = added(node.code, total, here.numbers[at], count);
                        count++;
                    }
                }
            }
            tellTotal(here, error, node.code == COUNT ? count : total);
        }

        private static double added(int code, double total, double number, int count) {
            switch (code) {
                case MAX:
                    return count == 0 || number > total ? number : total;
                case MIN:
                    return count == 0 || number < total ? number : total;
                default:
                    // An overflow stays one: no number brings it back, and another one would make NaN.
                    return isInfinite(total) ? total : total + number;
            }
        }

        private static void tellTotal(Values here, char error, double total) {
            if (error != NO_ERROR) {
                here.becomeError(error);
            } else if (isInfinite(total)) {
                here.becomeError(OVERFLOW);
            } else {
                here.becomeNumber(total);
            }
        }

        private void workSub(Node part, Values here) {
            if (part.kind != REFERENCE && part.kind != RANGE) {
                here.becomeError(WRONG_KIND);
                return;
            }
            if (part.isGone()) {
                here.becomeError(GONE);
                return;
            }
            char error = NO_ERROR;
            double total = 0.0;
            int bottom = part.bottom();
            int right = part.right();
            for (int row = part.top(); row <= bottom; row++) {
                for (int column = part.left(); column <= right && !sheet.rowAxis.lineAt(row).isHidden; column++) {
                    Node formula = sheet.contentIn(row, column).formula;
                    if (formula != null && formula.isSub()) {
                        continue;
                    }
                    int place = placeOf(row, column);
                    noteRead(place);
                    if (now.isError(place) && error == NO_ERROR) {
                        error = now.kinds[place];
                    } else if (now.kinds[place] == NUMBER) {
                        total = added(SUM, total, now.numbers[place], 0);
                    }
                }
            }
            tellTotal(here, error, total);
        }

        private void workIf(Node node, int slot, int depth, int namesDeep) {
            Values here = slotAt(slot);
            work(node.parts[0], slot, depth + 1, namesDeep);
            if (here.isSingleError()) {
                return;
            }
            if (!here.isSingle() || here.kinds[0] == TEXT) {
                here.becomeError(WRONG_KIND);
            } else if (here.numbers[0] != 0.0) {
                work(node.parts[1], slot, depth + 1, namesDeep);
            } else if (node.parts.length > 2) {
                work(node.parts[2], slot, depth + 1, namesDeep);
            } else {
                here.becomeNumber(0.0);
            }
        }

        private void workWhole(Node node, int slot, int depth, int namesDeep) {
            Values here = slotAt(slot);
            Values other = slotAt(slot + 1);
            work(node.parts[0], slot, depth + 1, namesDeep);
            if (node.parts.length > 1) {
                work(node.parts[1], slot + 1, depth + 1, namesDeep);
            } else {
                other.becomeNumber(1.0);
            }
            if (here.isSingleError()) {
                return;
            }
            if (other.isSingleError()) {
                here.becomeThing(other, 0);
                return;
            }
            switch (node.code) {
                case SEQ:
                    makeSequence(here, other);
                    break;
                case ROWS:
                    here.becomeNumber(here.height);
                    break;
                case COLS:
                    here.becomeNumber(here.width);
                    break;
                case TRANS:
                    transpose(here, other);
                    break;
                case SORT:
                    sort(here, other);
                    break;
                case FILTER:
                    filter(here, other);
                    break;
                default:
                    match(here, other);
                    break;
            }
        }

        private static boolean isCount(Values values) {
            if (!values.isSingle() || values.kinds[0] != NUMBER || values.numbers[0] < 1.0) {
                return false;
            }
            double number = values.numbers[0];
            // From 2 to the 53rd on, every double is whole, and a cast might not hold it.
            return number >= 9007199254740992.0 || (double) (long) number == number;
        }

        private static void makeSequence(Values here, Values other) {
            if (!isCount(here) || !isCount(other)) {
                here.becomeError(WRONG_KIND);
                return;
            }
            double height = here.numbers[0];
            double width = other.numbers[0];
            if (height > MOST_THINGS || width > MOST_THINGS || height * width > MOST_THINGS) {
                here.becomeError(OVERFLOW);
                return;
            }
            here.shape((int) height, (int) width);
            int size = here.size();
            for (int at = 0; at < size; at++) {
                here.setNumber(at, at + 1);
            }
        }

        private static void transpose(Values here, Values spare) {
            spare.become(here);
            here.shape(spare.width, spare.height);
            for (int row = 0; row < spare.height; row++) {
                for (int column = 0; column < spare.width; column++) {
                    here.setThing(column * spare.height + row, spare, row * spare.width + column);
                }
            }
        }

        private void sort(Values here, Values spare) {
            int size = here.size();
            for (int at = 0; at < size; at++) {
                if (here.isError(at)) {
                    here.becomeThing(here, at);
                    return;
                }
            }
            spare.become(here);
            for (int row = 0; row < spare.height; row++) {
                int at = row;
                while (at > 0 && spare.isAfter(order[at - 1] * spare.width, row * spare.width)) {
                    order[at] = order[at - 1];
                    at--;
                }
                order[at] = row;
            }
            for (int row = 0; row < here.height; row++) {
                copyRow(here, row, spare, order[row]);
            }
        }

        private static void copyRow(Values to, int toRow, Values from, int fromRow) {
            for (int column = 0; column < from.width; column++) {
                to.setThing(toRow * from.width + column, from, fromRow * from.width + column);
            }
        }

        private static void filter(Values here, Values choice) {
            if (choice.height != here.height || choice.width != 1) {
                here.becomeError(WRONG_KIND);
                return;
            }
            for (int row = 0; row < choice.height; row++) {
                if (choice.isError(row)) {
                    here.becomeThing(choice, row);
                    return;
                }
            }
            int count = 0;
            for (int row = 0; row < choice.height; row++) {
                if (choice.kinds[row] == NUMBER && choice.numbers[row] != 0.0) {
                    copyRow(here, count, here, row);
                    count++;
                }
            }
            if (count == 0) {
                here.becomeError(NOT_FOUND);
            } else {
                here.shape(count, here.width);
            }
        }

        private static void match(Values here, Values among) {
            if (!here.isSingle()) {
                here.becomeError(WRONG_KIND);
                return;
            }
            int size = among.size();
            for (int at = 0; at < size; at++) {
                if (!among.isError(at) && here.isEqual(0, among, at)) {
                    here.becomeNumber(at + 1);
                    return;
                }
            }
            here.becomeError(NOT_FOUND);
        }
    }

    /** Works the sheet out in passes; one that is whole works out all formulas in each of them. */
    private static final class Passes {
        final Sheet sheet;
        final boolean isWhole;
        final Reckoner reckoner;
        final Values[] results = new Values[MOST_CELLS];
        final boolean[] hasChanged = new boolean[MOST_CELLS];
        final int[] origins = new int[MOST_CELLS];
        final long[] lowReads = new long[MOST_CELLS];
        final long[] highReads = new long[MOST_CELLS];
        Values now = new Values(MOST_CELLS);
        Values ahead = new Values(MOST_CELLS);
        long lowChanged;
        long highChanged;
        int made;
        int worked;
        boolean isDue;

        Passes(Sheet sheet, boolean isWhole) {
            this.sheet = sheet;
            this.isWhole = isWhole;
            this.reckoner = new Reckoner(sheet);
            for (int place = 0; place < MOST_CELLS; place++) {
                origins[place] = -1;
            }
        }

        private Node formulaAt(int place) {
            return sheet.contentIn(place / MOST_COLUMNS, place % MOST_COLUMNS).formula;
        }

        private boolean isEmptyAt(int place) {
            return sheet.contentIn(place / MOST_COLUMNS, place % MOST_COLUMNS).kind == BLANK;
        }

        void settle() {
            if (!isDue) {
                return;
            }
            made = 0;
            worked = 0;
            putContents();
            boolean isOver = false;
            for (int pass = 0; pass < MOST_PASSES && !isOver; pass++) {
                made++;
                Values values = now;
                now = ahead;
                ahead = values;
                workFormulas(pass == 0);
                putContents();
                putResults();
                noteChanges();
                isOver = lowChanged == 0 && highChanged == 0;
            }
            if (!isOver) {
                tellCircles();
            }
            isDue = false;
        }

        private void putContents() {
            for (int place = 0; place < MOST_CELLS; place++) {
                Content content = sheet.contentIn(place / MOST_COLUMNS, place % MOST_COLUMNS);
                origins[place] = -1;
                if (content.kind == NUMBER) {
                    now.setNumber(place, content.number);
                } else if (content.kind == TEXT) {
                    now.setText(place, content.text);
                } else {
                    now.setEmpty(place, BLANK);
                }
            }
        }

        private void workFormulas(boolean isFirst) {
            reckoner.startPass(ahead);
            for (int place = 0; place < MOST_CELLS; place++) {
                Node formula = formulaAt(place);
                boolean isWanted = formula != null && (isFirst || isWhole || hasReadChange(place));
                hasChanged[place] = false;
                if (isWanted) {
                    Values result = reckoner.workOut(formula);
                    worked++;
                    keepResult(place, result, isFirst);
                }
            }
        }

        private boolean hasReadChange(int place) {
            return (lowReads[place] & lowChanged) != 0 || (highReads[place] & highChanged) != 0;
        }

        private void keepResult(int place, Values result, boolean isFirst) {
            if (results[place] == null) {
                results[place] = new Values(MOST_THINGS);
            }
            hasChanged[place] = isFirst || !results[place].isSame(result);
            results[place].become(result);
            lowReads[place] = reckoner.low;
            highReads[place] = reckoner.high;
        }

        private void putResults() {
            for (int place = 0; place < MOST_CELLS; place++) {
                Values result = results[place];
                if (result == null || formulaAt(place) == null) {
                    continue;
                }
                if (result.isSingle()) {
                    now.setThing(place, result, 0);
                } else if (hasSpace(place, result)) {
                    putArray(place, result);
                } else {
                    now.setEmpty(place, BLOCKED);
                }
            }
        }

        private boolean hasSpace(int place, Values result) {
            int top = place / MOST_COLUMNS;
            int left = place % MOST_COLUMNS;
            if (!sheet.hasCell(top + result.height - 1, left + result.width - 1)) {
                return false;
            }
            for (int row = 0; row < result.height; row++) {
                for (int column = 0; column < result.width; column++) {
                    int other = placeOf(top + row, left + column);
                    if (other != place && !isEmptyAt(other) || origins[other] >= 0) {
                        return false;
                    }
                }
            }
            return true;
        }

        private void putArray(int place, Values result) {
            for (int row = 0; row < result.height; row++) {
                for (int column = 0; column < result.width; column++) {
                    int other = place + placeOf(row, column);
                    now.setThing(other, result, row * result.width + column);
                    origins[other] = place;
                }
            }
        }

        private void noteChanges() {
            lowChanged = 0;
            highChanged = 0;
            for (int place = 0; place < MOST_CELLS; place++) {
                if (now.isSameThing(place, ahead)) {
                    continue;
                }
                if (place < CELLS_IN_LOW) {
                    lowChanged |= 1L << place;
                } else {
                    highChanged |= 1L << (place - CELLS_IN_LOW);
                }
            }
        }

        private void tellCircles() {
            for (int place = 0; place < MOST_CELLS; place++) {
                int origin = origins[place];
                boolean isOwn = formulaAt(place) != null && hasChanged[place];
                if (isOwn) {
                    now.setEmpty(place, CIRCLE);
                    origins[place] = -1;
                } else if (origin >= 0 && hasChanged[origin]) {
                    now.setEmpty(place, BLANK);
                    origins[place] = -1;
                }
            }
        }

        int countReaders(int place) {
            int count = 0;
            for (int reader = 0; reader < MOST_CELLS; reader++) {
                if (formulaAt(reader) != null && isReadBy(reader, place)) {
                    count++;
                }
            }
            return count;
        }

        private boolean isReadBy(int reader, int place) {
            return place < CELLS_IN_LOW
                    ? (lowReads[reader] >> place & 1L) != 0
                    : (highReads[reader] >> (place - CELLS_IN_LOW) & 1L) != 0;
        }
    }
}
