import java.util.ArrayDeque;
import java.util.ArrayList;
import java.util.Arrays;
import java.util.Collections;
import java.util.Comparator;
import java.util.Deque;
import java.util.HashMap;
import java.util.HashSet;
import java.util.List;
import java.util.Map;
import java.util.NoSuchElementException;
import java.util.Set;

/** The document once more, written with the Java library and without any thrift, to compare answers with. */
final class Oracle {
    /** A row or a column. */
    static final class Line {
        boolean isHidden;
    }

    /** An error as a value. */
    record Err(char letter) {
    }

    /** A blank value. */
    record Blank() {
    }

    /** What a cell has; two of them are never the same. */
    static final class Item {
        final char kind;
        final Object value;

        Item(char kind, Object value) {
            this.kind = kind;
            this.value = value;
        }
    }

    /** A formula or a part of one. */
    static final class Expr {
        String kind;
        String letters = "";
        List<Expr> parts = new ArrayList<>();
        Line row;
        Line column;
        boolean isRowFixed;
        boolean isColumnFixed;

        Expr(String kind, Expr... parts) {
            this.kind = kind;
            this.parts.addAll(Arrays.asList(parts));
        }

        int depth() {
            if (kind.equals("range")) {
                return 1;
            }
            return 1 + parts.stream().mapToInt(Expr::depth).max().orElse(0);
        }
    }

    /** How an edit is undone: answers false if it can not be. */
    interface Undo {
        boolean run();
    }

    static final Blank BLANK = new Blank();

    final StringBuilder typed = new StringBuilder();
    String written = "";
    final List<Line> rows = new ArrayList<>();
    final List<Line> columns = new ArrayList<>();
    final Map<Line, Map<Line, Item>> items = new HashMap<>();
    final Map<Character, Expr> names = new HashMap<>();
    final List<Deque<Undo>> hands = List.of(new ArrayDeque<>(), new ArrayDeque<>(), new ArrayDeque<>());
    boolean isDue;

    int passes;
    int worked;
    Object[][] values = new Object[10][8];
    int[][] origins = new int[10][8];
    Map<Integer, Set<Integer>> reads = new HashMap<>();

    Oracle() {
        for (int i = 0; i < 6; i++) {
            rows.add(new Line());
            columns.add(new Line());
        }
        putContents(values);
        clear(origins);
    }

    // ---- contents

    Item item(int row, int column) {
        return itemOf(rows.get(row), columns.get(column));
    }

    Item itemOf(Line row, Line column) {
        return items.getOrDefault(row, Map.of()).get(column);
    }

    void put(Line row, Line column, Item item) {
        Map<Line, Item> line = items.computeIfAbsent(row, key -> new HashMap<>());
        if (item == null) {
            line.remove(column);
        } else {
            line.put(column, item);
        }
    }

    boolean has(int row, int column) {
        return row >= 0 && row < rows.size() && column >= 0 && column < columns.size();
    }

    Expr formula(int row, int column) {
        Item item = has(row, column) ? item(row, column) : null;
        return item != null && item.kind == 'f' ? (Expr) item.value : null;
    }

    int type(char character) {
        if (character < 32 || character > 126) {
            throw new IllegalArgumentException();
        }
        if (typed.length() == 40) {
            throw new IllegalStateException();
        }
        return typed.append(character).length();
    }

    int erase() {
        int length = typed.length();
        typed.setLength(0);
        return length;
    }

    Item read() {
        String letters = typed.toString();
        if (letters.isEmpty()) {
            return null;
        }
        if (letters.startsWith("=")) {
            Expr expr = new Reading(letters.substring(1)).whole();
            if (expr.depth() > 10) {
                throw new UnsupportedOperationException();
            }
            return new Item('f', expr);
        }
        if (letters.matches("-?[0-9]{1,9}(\\.[0-9]{1,4})?")) {
            return new Item('n', Double.parseDouble(letters));
        }
        return new Item('t', letters);
    }

    void needHand(int hand) {
        if (hand < 0 || hand > 2) {
            throw new IllegalArgumentException();
        }
    }

    void need(boolean isThere) {
        if (!isThere) {
            throw new IndexOutOfBoundsException();
        }
    }

    void keep(int hand, Undo undo) {
        hands.get(hand).addLast(undo);
        if (hands.get(hand).size() > 8) {
            hands.get(hand).removeFirst();
        }
        isDue = true;
    }

    void replace(int hand, int row, int column, Item item) {
        Line rowLine = rows.get(row);
        Line columnLine = columns.get(column);
        Item before = itemOf(rowLine, columnLine);
        put(rowLine, columnLine, item);
        keep(hand, () -> {
            if (!rows.contains(rowLine) || !columns.contains(columnLine) || itemOf(rowLine, columnLine) != item) {
                return false;
            }
            put(rowLine, columnLine, before);
            return true;
        });
    }

    char enter(int hand, int row, int column) {
        needHand(hand);
        need(has(row, column));
        Item item = read();
        replace(hand, row, column, item);
        typed.setLength(0);
        return item == null ? 'b' : item.kind;
    }

    int define(char name) {
        if (name < 'A' || name > 'F') {
            throw new IllegalArgumentException();
        }
        Item item = read();
        if (item != null && item.kind != 'f') {
            throw new UnsupportedOperationException();
        }
        names.remove(name);
        if (item != null) {
            names.put(name, (Expr) item.value);
        }
        typed.setLength(0);
        isDue = true;
        return names.size();
    }

    int fill(int hand, int row, int column, int toRow, int toColumn) {
        needHand(hand);
        need(has(row, column) && has(toRow, toColumn));
        Item item = item(row, column);
        if (item == null) {
            throw new NoSuchElementException();
        }
        Object value = item.kind == 'f' ? copy((Expr) item.value, toRow - row, toColumn - column) : item.value;
        replace(hand, toRow, toColumn, new Item(item.kind, value));
        return item.kind == 'f' ? gone((Expr) value) : 0;
    }

    Expr copy(Expr expr, int down, int right) {
        Expr copy = new Expr(expr.kind);
        copy.letters = expr.letters;
        copy.isRowFixed = expr.isRowFixed;
        copy.isColumnFixed = expr.isColumnFixed;
        copy.row = expr.isRowFixed ? expr.row : shifted(rows, expr.row, down);
        copy.column = expr.isColumnFixed ? expr.column : shifted(columns, expr.column, right);
        for (Expr part : expr.parts) {
            copy.parts.add(copy(part, down, right));
        }
        return copy;
    }

    static Line shifted(List<Line> lines, Line line, int by) {
        int at = lines.indexOf(line);
        if (at < 0) {
            return line;
        }
        return at + by >= 0 && at + by < lines.size() ? lines.get(at + by) : new Line();
    }

    boolean isGone(Expr expr) {
        if (expr.kind.equals("range")) {
            return isGone(expr.parts.get(0)) || isGone(expr.parts.get(1));
        }
        return !rows.contains(expr.row) || !columns.contains(expr.column);
    }

    int gone(Expr expr) {
        int count = expr.kind.equals("ref") && isGone(expr) ? 1 : 0;
        for (Expr part : expr.parts) {
            count += gone(part);
        }
        return count;
    }

    // ---- rows and columns

    int insert(int hand, List<Line> lines, int most, int place) {
        needHand(hand);
        need(place >= 0 && place <= lines.size());
        if (lines.size() == most) {
            throw new IllegalStateException();
        }
        Line line = new Line();
        lines.add(place, line);
        keep(hand, () -> {
            if (!lines.contains(line) || lines.size() == 1 || filled(line) > 0) {
                return false;
            }
            lines.remove(line);
            return true;
        });
        return lines.size();
    }

    int filled(Line line) {
        int count = 0;
        for (Line row : rows) {
            for (Line column : columns) {
                if ((row == line || column == line) && itemOf(row, column) != null) {
                    count++;
                }
            }
        }
        return count;
    }

    int remove(int hand, List<Line> lines, int most, int place) {
        needHand(hand);
        need(place >= 0 && place < lines.size());
        if (lines.size() == 1) {
            throw new IllegalStateException();
        }
        Line line = lines.get(place);
        boolean isRow = lines == rows;
        List<Line> others = isRow ? columns : rows;
        int count = filled(line);
        Map<Line, Item> contents = new HashMap<>();
        for (Line other : others) {
            contents.put(other, isRow ? itemOf(line, other) : itemOf(other, line));
        }
        // All cells of it go, also those in lines that are not there now.
        items.remove(line);
        for (Map<Line, Item> rest : items.values()) {
            rest.remove(line);
        }
        lines.remove(line);
        keep(hand, () -> {
            if (lines.size() == most || lines.contains(line)) {
                return false;
            }
            lines.add(Math.min(place, lines.size()), line);
            for (Line other : others) {
                Item item = contents.get(other);
                put(isRow ? line : other, isRow ? other : line, item);
            }
            return true;
        });
        return count;
    }

    int sortRows(int hand, int column, int from, int to) {
        needHand(hand);
        if (to < from) {
            throw new IllegalArgumentException();
        }
        need(has(from, column) && has(to, column));
        workOut();
        List<Line> ahead = new ArrayList<>(rows.subList(from, to + 1));
        List<Integer> order = new ArrayList<>();
        for (int i = from; i <= to; i++) {
            order.add(i);
        }
        Collections.sort(order, Comparator.comparing(place -> values[place][column], Oracle::compare));
        List<Line> behind = new ArrayList<>();
        for (int place : order) {
            behind.add(rows.get(place));
        }
        int moved = 0;
        for (int i = 0; i < behind.size(); i++) {
            moved += behind.get(i) == ahead.get(i) ? 0 : 1;
            rows.set(from + i, behind.get(i));
        }
        keep(hand, () -> {
            if (to >= rows.size() || !rows.subList(from, to + 1).equals(behind)) {
                return false;
            }
            for (int i = 0; i < ahead.size(); i++) {
                rows.set(from + i, ahead.get(i));
            }
            return true;
        });
        return moved;
    }

    static int compare(Object one, Object other) {
        int rank = rank(one) - rank(other);
        if (rank != 0) {
            return rank;
        }
        if (one instanceof Double) {
            double left = (Double) one;
            double right = (Double) other;
            return left < right ? -1 : left > right ? 1 : 0;
        }
        return one instanceof String ? ((String) one).compareTo((String) other) : 0;
    }

    static int rank(Object value) {
        return value instanceof Double ? 0 : value instanceof String ? 1 : value instanceof Blank ? 2 : 3;
    }

    boolean hide(int row, boolean isHidden) {
        need(row >= 0 && row < rows.size());
        boolean was = rows.get(row).isHidden;
        rows.get(row).isHidden = isHidden;
        isDue = true;
        return was;
    }

    int undo(int hand) {
        needHand(hand);
        if (hands.get(hand).isEmpty()) {
            throw new NoSuchElementException();
        }
        if (!hands.get(hand).getLast().run()) {
            throw new UnsupportedOperationException();
        }
        hands.get(hand).removeLast();
        isDue = true;
        return hands.get(hand).size();
    }

    // ---- passes

    static void clear(int[][] origins) {
        for (int[] row : origins) {
            Arrays.fill(row, -1);
        }
    }

    void putContents(Object[][] values) {
        for (int row = 0; row < 10; row++) {
            for (int column = 0; column < 8; column++) {
                Item item = has(row, column) ? item(row, column) : null;
                values[row][column] = item == null || item.kind == 'f' ? BLANK : item.value;
            }
        }
    }

    static boolean same(Object one, Object other) {
        if (one instanceof Double && other instanceof Double) {
            return ((Double) one).doubleValue() == ((Double) other).doubleValue();
        }
        return one.equals(other);
    }

    static boolean sameAll(Object[][] one, Object[][] other) {
        if (one.length != other.length || one[0].length != other[0].length) {
            return false;
        }
        for (int row = 0; row < one.length; row++) {
            for (int column = 0; column < one[0].length; column++) {
                if (!same(one[row][column], other[row][column])) {
                    return false;
                }
            }
        }
        return true;
    }

    void workOut() {
        if (!isDue) {
            return;
        }
        isDue = false;
        passes = 0;
        worked = 0;
        reads = new HashMap<>();
        Map<Integer, Object[][]> results = new HashMap<>();
        Set<Integer> changed = new HashSet<>();
        Object[][] ahead = new Object[10][8];
        putContents(ahead);
        while (true) {
            passes++;
            Set<Integer> changedResults = new HashSet<>();
            for (int place = 0; place < 80; place++) {
                Expr expr = formula(place / 8, place % 8);
                if (expr == null || passes > 1 && Collections.disjoint(reads.get(place), changed)) {
                    continue;
                }
                worked++;
                Working working = new Working(ahead);
                Object[][] result = working.work(expr, 0);
                reads.put(place, working.reads);
                if (!results.containsKey(place) || !sameAll(result, results.get(place))) {
                    changedResults.add(place);
                }
                results.put(place, result);
            }
            Object[][] behind = new Object[10][8];
            putDown(results, behind);
            changed = new HashSet<>();
            for (int place = 0; place < 80; place++) {
                if (!same(ahead[place / 8][place % 8], behind[place / 8][place % 8])) {
                    changed.add(place);
                }
            }
            values = behind;
            ahead = behind;
            if (changed.isEmpty()) {
                return;
            }
            if (passes == 40) {
                tellCircles(changedResults);
                return;
            }
        }
    }

    void putDown(Map<Integer, Object[][]> results, Object[][] behind) {
        putContents(behind);
        clear(origins);
        for (int place = 0; place < 80; place++) {
            Object[][] result = results.get(place);
            if (result == null) {
                continue;
            }
            int top = place / 8;
            int left = place % 8;
            if (result.length * result[0].length == 1) {
                behind[top][left] = result[0][0];
                continue;
            }
            boolean isFree = true;
            for (int row = top; row < top + result.length; row++) {
                for (int column = left; column < left + result[0].length; column++) {
                    boolean isOwn = row == top && column == left;
                    isFree = isFree && has(row, column) && (isOwn || item(row, column) == null)
                            && origins[row][column] == -1;
                }
            }
            if (!isFree) {
                behind[top][left] = new Err('s');
                continue;
            }
            for (int row = 0; row < result.length; row++) {
                for (int column = 0; column < result[0].length; column++) {
                    behind[top + row][left + column] = result[row][column];
                    origins[top + row][left + column] = 10 * top + left;
                }
            }
        }
    }

    void tellCircles(Set<Integer> places) {
        for (int place : places) {
            int own = 10 * (place / 8) + place % 8;
            for (int row = 0; row < 10; row++) {
                for (int column = 0; column < 8; column++) {
                    if (origins[row][column] == own) {
                        values[row][column] = BLANK;
                        origins[row][column] = -1;
                    }
                }
            }
            values[place / 8][place % 8] = new Err('c');
        }
    }

    /** One formula being worked out. */
    final class Working {
        final Object[][] ahead;
        final Set<Integer> reads = new HashSet<>();

        Working(Object[][] ahead) {
            this.ahead = ahead;
        }

        Object[][] one(Object value) {
            return new Object[][] {{value}};
        }

        Object[][] error(char letter) {
            return one(new Err(letter));
        }

        boolean isOne(Object[][] values) {
            return values.length == 1 && values[0].length == 1;
        }

        boolean isError(Object[][] values) {
            return isOne(values) && values[0][0] instanceof Err;
        }

        Object readCell(int row, int column) {
            reads.add(row * 8 + column);
            return ahead[row][column];
        }

        Object[][] work(Expr expr, int names) {
            switch (expr.kind) {
                case "num":
                    return one(Double.parseDouble(expr.letters));
                case "text":
                    return one(expr.letters);
                case "ref":
                case "range":
                    return isGone(expr) ? error('r') : area(expr);
                case "name":
                    Expr formula = Oracle.this.names.get(expr.letters.charAt(0));
                    return formula == null || names == 6 ? error('n') : work(formula, names + 1);
                case "fun":
                    return function(expr, names);
                case "neg":
                case "%":
                    return each(expr.kind, work(expr.parts.get(0), names), one(0.0));
                default:
                    Object[][] left = work(expr.parts.get(0), names);
                    Object[][] right = work(expr.parts.get(1), names);
                    return each(expr.kind, left, right);
            }
        }

        int[] bounds(Expr expr) {
            Expr first = expr.kind.equals("ref") ? expr : expr.parts.get(0);
            Expr second = expr.kind.equals("ref") ? expr : expr.parts.get(1);
            int[] row = {rows.indexOf(first.row), rows.indexOf(second.row)};
            int[] column = {columns.indexOf(first.column), columns.indexOf(second.column)};
            Arrays.sort(row);
            Arrays.sort(column);
            return new int[] {row[0], column[0], row[1], column[1]};
        }

        Object[][] area(Expr expr) {
            int[] at = bounds(expr);
            Object[][] all = new Object[at[2] - at[0] + 1][at[3] - at[1] + 1];
            for (int row = 0; row < all.length; row++) {
                for (int column = 0; column < all[0].length; column++) {
                    all[row][column] = readCell(at[0] + row, at[1] + column);
                }
            }
            return all.length * all[0].length > 60 ? error('o') : all;
        }

        Object[][] each(String sign, Object[][] left, Object[][] right) {
            boolean isLeft = isOne(left);
            boolean isRight = isOne(right);
            if (!isLeft && !isRight && (left.length != right.length || left[0].length != right[0].length)) {
                return error('v');
            }
            Object[][] shape = isLeft ? right : left;
            Object[][] all = new Object[shape.length][shape[0].length];
            for (int row = 0; row < all.length; row++) {
                for (int column = 0; column < all[0].length; column++) {
                    all[row][column] = pair(sign, isLeft ? left[0][0] : left[row][column],
                            isRight ? right[0][0] : right[row][column]);
                }
            }
            return all;
        }

        Object pair(String sign, Object left, Object right) {
            if (left instanceof Err || right instanceof Err) {
                return left instanceof Err ? left : right;
            }
            if (sign.equals("=") || sign.equals("<")) {
                return compared(sign, left, right) ? 1.0 : 0.0;
            }
            if (left instanceof String || right instanceof String) {
                return new Err('v');
            }
            double one = left instanceof Blank ? 0 : (Double) left;
            double two = right instanceof Blank ? 0 : (Double) right;
            if (sign.equals("/") && two == 0) {
                return new Err('d');
            }
            double result = sign.equals("+") ? one + two : sign.equals("-") ? one - two : sign.equals("*") ? one * two
                    : sign.equals("/") ? one / two : sign.equals("%") ? one / 100 : -one;
            return Double.isInfinite(result) ? new Err('o') : (Object) (result == 0 ? 0.0 : result);
        }

        boolean compared(String sign, Object left, Object right) {
            boolean isText = left instanceof String || right instanceof String;
            Object one = left instanceof Blank ? isText ? (Object) "" : (Object) 0.0 : left;
            Object two = right instanceof Blank ? isText ? (Object) "" : (Object) 0.0 : right;
            if (left instanceof Blank && right instanceof Double) {
                one = 0.0;
            }
            if (right instanceof Blank && left instanceof Double) {
                two = 0.0;
            }
            return sign.equals("=") ? rank(one) == rank(two) && same(one, two) : compare(one, two) < 0;
        }

        Object[][] total(String name, List<Object> things) {
            List<Double> numbers = new ArrayList<>();
            for (Object thing : things) {
                if (thing instanceof Err) {
                    return one(thing);
                }
                if (thing instanceof Double) {
                    numbers.add((Double) thing);
                }
            }
            if (name.equals("count")) {
                return one((double) numbers.size());
            }
            if (name.equals("max") || name.equals("min")) {
                double best = numbers.isEmpty() ? 0 : numbers.get(0);
                for (double number : numbers) {
                    best = name.equals("max") ? number > best ? number : best : number < best ? number : best;
                }
                return one(best);
            }
            double sum = 0;
            for (double number : numbers) {
                sum += number;
            }
            return Double.isInfinite(sum) || Double.isNaN(sum) ? error('o') : one(sum);
        }

        Object[][] function(Expr expr, int names) {
            List<Expr> parts = expr.parts;
            Map<String, String> sizes = Map.ofEntries(Map.entry("if", "23"), Map.entry("iferr", "2"),
                    Map.entry("seq", "12"), Map.entry("rows", "1"), Map.entry("cols", "1"), Map.entry("trans", "1"),
                    Map.entry("sort", "1"), Map.entry("filter", "2"), Map.entry("match", "2"), Map.entry("sub", "1"));
            String name = expr.letters;
            boolean isTotal = List.of("sum", "max", "min", "count").contains(name);
            if (!isTotal && !sizes.getOrDefault(name, "").contains("" + parts.size())) {
                return error('n');
            }
            if (isTotal) {
                List<Object> things = new ArrayList<>();
                for (Expr part : parts) {
                    for (Object[] row : work(part, names)) {
                        things.addAll(Arrays.asList(row));
                    }
                }
                return total(name, things);
            }
            if (name.equals("sub")) {
                return sub(parts.get(0));
            }
            Object[][] first = work(parts.get(0), names);
            if (name.equals("iferr")) {
                return isError(first) ? work(parts.get(1), names) : first;
            }
            if (name.equals("if")) {
                if (isError(first)) {
                    return first;
                }
                if (!isOne(first) || first[0][0] instanceof String) {
                    return error('v');
                }
                boolean isTrue = first[0][0] instanceof Double && (Double) first[0][0] != 0;
                return isTrue ? work(parts.get(1), names) : parts.size() == 3 ? work(parts.get(2), names) : one(0.0);
            }
            Object[][] second = parts.size() == 2 ? work(parts.get(1), names) : one(1.0);
            return isError(first) ? first : isError(second) ? second : whole(name, first, second);
        }

        Object[][] sub(Expr part) {
            if (!part.kind.equals("ref") && !part.kind.equals("range")) {
                return error('v');
            }
            if (isGone(part)) {
                return error('r');
            }
            int[] at = bounds(part);
            List<Object> things = new ArrayList<>();
            for (int row = at[0]; row <= at[2]; row++) {
                for (int column = at[1]; column <= at[3]; column++) {
                    Expr formula = formula(row, column);
                    boolean isSub = formula != null && formula.kind.equals("fun") && formula.letters.equals("sub");
                    if (!rows.get(row).isHidden && !isSub) {
                        things.add(readCell(row, column));
                    }
                }
            }
            return total("sum", things);
        }

        boolean isWhole(Object[][] values) {
            return isOne(values) && values[0][0] instanceof Double && (Double) values[0][0] >= 1
                    && Math.rint((Double) values[0][0]) == (Double) values[0][0];
        }

        Object[][] whole(String name, Object[][] first, Object[][] second) {
            switch (name) {
                case "seq":
                    if (!isWhole(first) || !isWhole(second)) {
                        return error('v');
                    }
                    double height = (Double) first[0][0];
                    double width = (Double) second[0][0];
                    if (height * width > 60) {
                        return error('o');
                    }
                    Object[][] all = new Object[(int) height][(int) width];
                    for (int i = 0; i < height * width; i++) {
                        all[i / (int) width][i % (int) width] = i + 1.0;
                    }
                    return all;
                case "rows":
                    return one((double) first.length);
                case "cols":
                    return one((double) first[0].length);
                case "trans":
                    Object[][] turned = new Object[first[0].length][first.length];
                    for (int i = 0; i < first.length; i++) {
                        for (int j = 0; j < first[0].length; j++) {
                            turned[j][i] = first[i][j];
                        }
                    }
                    return turned;
                case "sort":
                    for (Object[] row : first) {
                        for (Object thing : row) {
                            if (thing instanceof Err) {
                                return one(thing);
                            }
                        }
                    }
                    Object[][] sorted = first.clone();
                    Arrays.sort(sorted, (one, other) -> compare(one[0], other[0]));
                    return sorted;
                case "filter":
                    return filter(first, second);
                default:
                    return match(first, second);
            }
        }

        Object[][] filter(Object[][] first, Object[][] second) {
            if (second.length != first.length || second[0].length != 1) {
                return error('v');
            }
            List<Object[]> left = new ArrayList<>();
            for (Object[] row : second) {
                if (row[0] instanceof Err) {
                    return one(row[0]);
                }
            }
            for (int i = 0; i < first.length; i++) {
                if (second[i][0] instanceof Double && (Double) second[i][0] != 0) {
                    left.add(first[i]);
                }
            }
            return left.isEmpty() ? error('a') : left.toArray(new Object[0][]);
        }

        Object[][] match(Object[][] first, Object[][] second) {
            if (!isOne(first)) {
                return error('v');
            }
            int place = 0;
            for (Object[] row : second) {
                for (Object thing : row) {
                    place++;
                    if (!(thing instanceof Err) && compared("=", first[0][0], thing)) {
                        return one((double) place);
                    }
                }
            }
            return error('a');
        }
    }

    // ---- reading

    /** A formula being read: each step takes what it can, or throws. */
    final class Reading {
        String rest;

        Reading(String rest) {
            this.rest = rest;
        }

        Expr whole() {
            Expr expr = expression();
            if (!rest.isEmpty()) {
                throw new UnsupportedOperationException();
            }
            return expr;
        }

        boolean takes(String sign) {
            if (!rest.startsWith(sign)) {
                return false;
            }
            rest = rest.substring(sign.length());
            return true;
        }

        String taken(String pattern) {
            java.util.regex.Matcher matcher = java.util.regex.Pattern.compile(pattern).matcher(rest);
            if (!matcher.lookingAt()) {
                return null;
            }
            rest = rest.substring(matcher.end());
            return matcher.group();
        }

        Expr expression() {
            Expr left = sum();
            String sign = taken("[<=]");
            return sign == null ? left : new Expr(sign, left, sum());
        }

        Expr sum() {
            Expr left = product();
            for (String sign = taken("[+-]"); sign != null; sign = taken("[+-]")) {
                left = new Expr(sign, left, product());
            }
            return left;
        }

        Expr product() {
            Expr left = signed();
            for (String sign = taken("[*/]"); sign != null; sign = taken("[*/]")) {
                left = new Expr(sign, left, signed());
            }
            return left;
        }

        Expr signed() {
            if (takes("-")) {
                return new Expr("neg", signed());
            }
            Expr thing = thing();
            while (takes("%")) {
                thing = new Expr("%", thing);
            }
            return thing;
        }

        Expr told(String kind, String letters) {
            Expr expr = new Expr(kind);
            expr.letters = letters;
            return expr;
        }

        Expr thing() {
            String letters = taken("[0-9]+(\\.[0-9]+)?");
            if (letters != null) {
                if (!letters.matches("[0-9]{1,9}(\\.[0-9]{1,4})?")) {
                    throw new UnsupportedOperationException();
                }
                return told("num", letters);
            }
            letters = taken("\"[^\"]*\"");
            if (letters != null) {
                return told("text", letters.substring(1, letters.length() - 1));
            }
            letters = taken("[A-F]");
            if (letters != null) {
                return told("name", letters);
            }
            letters = taken("[a-z]+\\(");
            if (letters != null) {
                Expr expr = told("fun", letters.substring(0, letters.length() - 1));
                do {
                    expr.parts.add(expression());
                } while (takes(","));
                return closed(expr);
            }
            if (takes("(")) {
                return closed(expression());
            }
            Expr first = reference();
            return takes(":") ? new Expr("range", first, reference()) : first;
        }

        Expr closed(Expr expr) {
            if (!takes(")")) {
                throw new UnsupportedOperationException();
            }
            return expr;
        }

        Expr reference() {
            String letters = taken("\\$?[a-h]\\$?[0-9]");
            if (letters == null) {
                throw new UnsupportedOperationException();
            }
            Expr expr = new Expr("ref");
            String bare = letters.replace("$", "");
            int row = bare.charAt(1) - '0';
            int column = bare.charAt(0) - 'a';
            if (!has(row, column)) {
                throw new UnsupportedOperationException();
            }
            expr.row = rows.get(row);
            expr.column = columns.get(column);
            expr.isColumnFixed = letters.startsWith("$");
            expr.isRowFixed = letters.substring(1).contains("$");
            return expr;
        }
    }

    // ---- writing

    int write(int row, int column) {
        need(has(row, column));
        Expr expr = formula(row, column);
        if (expr == null) {
            throw new NoSuchElementException();
        }
        String all = told(expr);
        written = "=" + (isPair(expr) ? all.substring(1, all.length() - 1) : all);
        return written.length();
    }

    static boolean isPair(Expr expr) {
        return "+-*/<=".contains(expr.kind);
    }

    String told(Expr expr) {
        switch (expr.kind) {
            case "num":
            case "name":
                return expr.letters;
            case "text":
                return '"' + expr.letters + '"';
            case "neg":
                return "-" + told(expr.parts.get(0));
            case "%":
                return told(expr.parts.get(0)) + "%";
            case "ref":
                return isGone(expr) ? "#" : (expr.isColumnFixed ? "$" : "") + (char) ('a' + columns.indexOf(expr.column))
                        + (expr.isRowFixed ? "$" : "") + rows.indexOf(expr.row);
            case "range":
                return isGone(expr) ? "#" : told(expr.parts.get(0)) + ":" + told(expr.parts.get(1));
            case "fun":
                List<String> parts = new ArrayList<>();
                for (Expr part : expr.parts) {
                    parts.add(told(part));
                }
                return expr.letters + "(" + String.join(",", parts) + ")";
            default:
                return "(" + told(expr.parts.get(0)) + expr.kind + told(expr.parts.get(1)) + ")";
        }
    }
}
