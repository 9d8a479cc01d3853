import java.util.Random;
import java.util.Set;

/** Long runs of seeded calls, each answer compared with the oracle's. */
public final class OracleTest {
    private static final String[] FUNCTIONS = {"sum", "max", "min", "count", "if", "iferr", "seq", "rows", "cols",
        "trans", "sort", "filter", "match", "sub", "sub", "seq", "filter", "sort", "zz"};
    private static final int[] USUAL_PARTS = {2, 2, 1, 1, 3, 2, 2, 1, 1, 1, 1, 2, 2, 1, 1, 2, 2, 1, 1};

    private final Random random;
    private final LedgerleafSheets sheet = new LedgerleafSheets();
    private final Oracle oracle = new Oracle();
    private final StringBuilder told = new StringBuilder();
    private int calls;

    private OracleTest(long seed) {
        random = new Random(seed);
    }

    /** A call with an answer. */
    interface Call {
        Object run();
    }

    public static void main(String[] args) {
        int runs = args.length > 0 ? Integer.parseInt(args[0]) : 300;
        int from = args.length > 1 ? Integer.parseInt(args[1]) : 0;
        for (int seed = from; seed < from + runs && Check.wrong == 0; seed++) {
            OracleTest run = new OracleTest(seed);
            run.runAll();
            if (Check.wrong > 0) {
                System.out.println("seed " + seed + ":\n" + run.told);
            }
        }
        Check.end();
    }

    private void runAll() {
        int more = random.nextInt(3) == 0 ? 4 : 0;
        for (int i = 0; i < more; i++) {
            compare("insertRow", () -> sheet.insertRow(2, 0), () -> oracle.insert(2, oracle.rows, 10, 0));
        }
        for (int step = 0; step < 60 && calls < 512 && Check.wrong == 0; step++) {
            edit();
            if (random.nextInt(3) == 0) {
                compareAll();
            }
        }
        compareAll();
    }

    private int pick(int bound) {
        if (random.nextInt(40) > 0) {
            return near(bound);
        }
        int[] wild = {-1, bound, Integer.MIN_VALUE, Integer.MAX_VALUE, 1 << 29, -1 << 28};
        return random.nextInt(3) > 0 ? random.nextInt(14) - 3 : wild[random.nextInt(wild.length)];
    }

    /** Small places come more often, so that cells are full and read one another. */
    private int near(int bound) {
        int place = random.nextInt(bound);
        return random.nextInt(3) == 0 ? place : Math.min(place, random.nextInt(bound));
    }

    private int hand() {
        return random.nextInt(60) == 0 ? random.nextInt(9) - 4 : random.nextInt(3);
    }

    private int row() {
        return pick(oracle.rows.size());
    }

    private int column() {
        return pick(oracle.columns.size());
    }

    private void compare(String what, Call call, Call due) {
        told.append(what);
        String got = answer(call);
        String want = answer(due);
        told.append(" = ").append(want).append('\n');
        Check.same(what, got, want);
        calls++;
    }

    private static String answer(Call call) {
        try {
            return "" + call.run();
        } catch (RuntimeException e) {
            return e.getClass().getSimpleName();
        }
    }

    private void type(String letters) {
        compare("erase", sheet::erase, oracle::erase);
        for (char letter : letters.toCharArray()) {
            compare("type " + letter, () -> sheet.type(letter), () -> oracle.type(letter));
        }
        calls -= letters.length();
    }

    private void edit() {
        int kind = random.nextInt(100);
        int hand = hand();
        int row = row();
        int column = column();
        if (kind < 50) {
            type(content());
            compare("enter " + hand + " " + row + " " + column, () -> sheet.enter(hand, row, column),
                    () -> oracle.enter(hand, row, column));
        } else if (kind < 57) {
            char name = (char) ('A' + random.nextInt(6));
            type(random.nextInt(5) == 0 ? content() : "=" + expression(2, 2));
            compare("define " + name, () -> sheet.define(name), () -> oracle.define(name));
        } else if (kind < 67) {
            fill(hand);
        } else if (kind < 71) {
            compare("insertRow " + hand + " " + row, () -> sheet.insertRow(hand, row),
                    () -> oracle.insert(hand, oracle.rows, 10, row));
        } else if (kind < 74) {
            compare("insertColumn " + hand + " " + column, () -> sheet.insertColumn(hand, column),
                    () -> oracle.insert(hand, oracle.columns, 8, column));
        } else if (kind < 77) {
            compare("removeRow " + hand + " " + row, () -> sheet.removeRow(hand, row),
                    () -> oracle.remove(hand, oracle.rows, 10, row));
        } else if (kind < 80) {
            compare("removeColumn " + hand + " " + column, () -> sheet.removeColumn(hand, column),
                    () -> oracle.remove(hand, oracle.columns, 8, column));
        } else if (kind < 85) {
            int to = row();
            compare("sortRows " + hand + " " + column + " " + row + " " + to,
                    () -> sheet.sortRows(hand, column, row, to), () -> oracle.sortRows(hand, column, row, to));
        } else if (kind < 89) {
            boolean isHidden = random.nextInt(3) > 0;
            compare("hide " + row + " " + isHidden, () -> sheet.hide(row, isHidden), () -> oracle.hide(row, isHidden));
        } else {
            compare("undo " + hand, () -> sheet.undo(hand), () -> oracle.undo(hand));
        }
    }

    private void fill(int hand) {
        int row = row();
        int column = column();
        for (int i = 0; i < 9 && oracle.has(row, column) && oracle.item(row, column) == null; i++) {
            row = row();
            column = column();
        }
        int fromRow = row;
        int fromColumn = column;
        int toRow = row();
        int toColumn = column();
        compare("fill " + hand + " " + row + " " + column + " " + toRow + " " + toColumn,
                () -> sheet.fill(hand, fromRow, fromColumn, toRow, toColumn),
                () -> oracle.fill(hand, fromRow, fromColumn, toRow, toColumn));
    }

    private String content() {
        int kind = random.nextInt(20);
        if (kind < 3) {
            return "" + (random.nextInt(12) - 4);
        }
        if (kind == 3) {
            return new String[] {"0.5", "-0", "1.25", "999999999", "0.0001", "12.", "1234567890", "-"}[random.nextInt(8)];
        }
        if (kind < 6) {
            return new String[] {"x", "y", "xy", "A", "-1-", " ", "a0"}[random.nextInt(7)];
        }
        if (kind == 6) {
            return "";
        }
        String formula = "=" + expression(3, 3);
        if (random.nextInt(30) == 0 && formula.length() > 2) {
            int at = 1 + random.nextInt(formula.length() - 1);
            formula = formula.substring(0, at) + formula.substring(at + 1);
        }
        return formula.length() > 40 && random.nextInt(9) > 0 ? "=" + expression(1, 3) : formula;
    }

    private String reference() {
        String letters = "" + (char) ('a' + near(oracle.columns.size()))
                + (char) ('0' + near(oracle.rows.size()));
        if (random.nextInt(5) == 0) {
            letters = "$" + letters;
        }
        if (random.nextInt(5) == 0) {
            letters = letters.substring(0, letters.length() - 1) + "$" + letters.charAt(letters.length() - 1);
        }
        return letters;
    }

    private String thing(int nameOdds) {
        int kind = random.nextInt(12);
        if (kind < 4) {
            return reference();
        }
        if (kind < 7) {
            return reference() + ":" + reference();
        }
        if (kind < 10) {
            return "" + random.nextInt(5);
        }
        if (kind == 10 && random.nextInt(nameOdds) == 0) {
            return "" + (char) ('A' + random.nextInt(6));
        }
        return new String[] {"\"x\"", "\"\"", "0.5", "\"y\"", "999999999", "seq(8,8)", "1/0"}[random.nextInt(7)];
    }

    private String expression(int depth, int nameOdds) {
        int kind = random.nextInt(10);
        if (depth == 0 || kind < 2) {
            return thing(nameOdds);
        }
        if (kind < 5) {
            String sign = "" + "+-*/<=".charAt(random.nextInt(6));
            String left = expression(depth - 1, nameOdds);
            String right = expression(depth - 1, nameOdds);
            return random.nextBoolean() ? "(" + left + sign + right + ")" : left + sign + right;
        }
        if (kind == 5) {
            return random.nextBoolean() ? "-" + expression(depth - 1, nameOdds) : thing(nameOdds) + "%";
        }
        int function = random.nextInt(FUNCTIONS.length);
        int parts = random.nextInt(12) == 0 ? 1 + random.nextInt(3) : USUAL_PARTS[function];
        StringBuilder all = new StringBuilder(FUNCTIONS[function]);
        for (int i = 0; i < parts; i++) {
            all.append(i == 0 ? '(' : ',').append(expression(depth - 1, nameOdds));
        }
        return all.append(')').toString();
    }

    private void compareAll() {
        oracle.workOut();
        told.append("values\n");
        Check.same("rows", sheet.rows(), oracle.rows.size());
        Check.same("columns", sheet.columns(), oracle.columns.size());
        Check.same("passes", sheet.passes(), oracle.passes);
        Check.same("workedOut", sheet.workedOut(), oracle.worked);
        Check.same("isSound", sheet.isSound(), true);
        int errors = 0;
        int filled = 0;
        for (int row = 0; row < oracle.rows.size(); row++) {
            for (int column = 0; column < oracle.columns.size(); column++) {
                compareCell(row, column);
                Object value = oracle.values[row][column];
                errors += value instanceof Oracle.Err ? 1 : 0;
                filled += value instanceof Oracle.Blank ? 0 : 1;
            }
        }
        Check.same("errors", sheet.errors(), errors);
        Check.same("filledShare", sheet.filledShare(), (float) filled / (float) (sheet.rows() * sheet.columns()));
        for (int hand = 0; hand < 3; hand++) {
            Check.same("kept", sheet.kept(hand), oracle.hands.get(hand).size());
        }
    }

    private void compareCell(int row, int column) {
        String cell = (char) ('a' + column) + "" + row;
        Object value = oracle.values[row][column];
        Oracle.Item item = oracle.item(row, column);
        Check.same("kindAt " + cell, sheet.kindAt(row, column), value instanceof Double ? 'n'
                : value instanceof String ? 't' : value instanceof Oracle.Err ? 'e' : 'b');
        Check.same("kindByAll " + cell, sheet.kindByAll(row, column), sheet.kindAt(row, column));
        Check.same("contentAt " + cell, sheet.contentAt(row, column), item == null ? 'b' : item.kind);
        Check.same("value of " + cell, value(row, column), told(value));
        if (value instanceof Double) {
            Check.same("bitsOf " + cell, sheet.bitsOf(row, column), Double.doubleToLongBits((Double) value));
            Check.same("numberByAll " + cell, sheet.numberByAll(row, column) == (Double) value, true);
        }
        int readers = 0;
        for (Set<Integer> reads : oracle.reads.values()) {
            readers += reads.contains(row * 8 + column) ? 1 : 0;
        }
        Check.same("readers of " + cell, sheet.readers(row, column), readers);
        int origin = oracle.origins[row][column];
        Check.same("spillOf " + cell, answer(() -> sheet.spillOf(row, column)),
                origin < 0 ? "NoSuchElementException" : "" + origin);
        String written = answer(() -> sheet.write(row, column));
        Check.same("write " + cell, written, answer(() -> oracle.write(row, column)));
        if (item != null && item.kind == 'f') {
            StringBuilder letters = new StringBuilder();
            for (int i = 0; i < Integer.parseInt(written); i++) {
                letters.append(sheet.writtenAt(i));
            }
            Check.same("written of " + cell, letters.toString(), oracle.written);
        }
    }

    private static String told(Object value) {
        return value instanceof Oracle.Err ? "!" + ((Oracle.Err) value).letter()
                : value instanceof Oracle.Blank ? "" : value instanceof String ? "'" + value : "" + value;
    }

    private String value(int row, int column) {
        switch (sheet.kindAt(row, column)) {
            case 'n':
                return "" + sheet.numberAt(row, column);
            case 'e':
                return "!" + sheet.errorAt(row, column);
            case 'b':
                return "";
            default:
                StringBuilder text = new StringBuilder("'");
                for (int i = 0; i < sheet.textLength(row, column); i++) {
                    text.append(sheet.textAt(row, column, i));
                }
                return text.toString();
        }
    }
}
