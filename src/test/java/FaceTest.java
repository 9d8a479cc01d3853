import java.lang.reflect.Method;
import java.lang.reflect.Modifier;
import java.util.Arrays;
import java.util.TreeSet;

/** The public face: each method of the document, with its types and exceptions, and no other. */
public final class FaceTest {
    private static final String[] FACE = {
        "int type(char) IllegalArgumentException IllegalStateException",
        "int erase()",
        "char enter(int,int,int) IllegalArgumentException IndexOutOfBoundsException UnsupportedOperationException",
        "int define(char) IllegalArgumentException UnsupportedOperationException",
        "int fill(int,int,int,int,int) IllegalArgumentException IndexOutOfBoundsException NoSuchElementException",
        "int rows()",
        "int columns()",
        "int insertRow(int,int) IllegalArgumentException IndexOutOfBoundsException IllegalStateException",
        "int insertColumn(int,int) IllegalArgumentException IndexOutOfBoundsException IllegalStateException",
        "int removeRow(int,int) IllegalArgumentException IndexOutOfBoundsException IllegalStateException",
        "int removeColumn(int,int) IllegalArgumentException IndexOutOfBoundsException IllegalStateException",
        "int sortRows(int,int,int,int) IllegalArgumentException IndexOutOfBoundsException",
        "boolean hide(int,boolean) IndexOutOfBoundsException",
        "int undo(int) IllegalArgumentException NoSuchElementException UnsupportedOperationException",
        "int kept(int) IllegalArgumentException",
        "char kindAt(int,int) IndexOutOfBoundsException",
        "double numberAt(int,int) IndexOutOfBoundsException NoSuchElementException",
        "char errorAt(int,int) IndexOutOfBoundsException NoSuchElementException",
        "int textLength(int,int) IndexOutOfBoundsException NoSuchElementException",
        "char textAt(int,int,int) IndexOutOfBoundsException NoSuchElementException",
        "char kindByAll(int,int) IndexOutOfBoundsException",
        "double numberByAll(int,int) IndexOutOfBoundsException NoSuchElementException",
        "int spillOf(int,int) IndexOutOfBoundsException NoSuchElementException",
        "int passes()",
        "int workedOut()",
        "int readers(int,int) IndexOutOfBoundsException",
        "char contentAt(int,int) IndexOutOfBoundsException",
        "int write(int,int) IndexOutOfBoundsException NoSuchElementException",
        "char writtenAt(int) IndexOutOfBoundsException",
        "int errors()",
        "long bitsOf(int,int) IndexOutOfBoundsException NoSuchElementException",
        "float filledShare()",
        "boolean isSound()",
    };

    public static void main(String[] args) {
        Class<?> type = LedgerleafSheets.class;
        TreeSet<String> found = new TreeSet<>();
        for (Method method : type.getDeclaredMethods()) {
            if (!Modifier.isPrivate(method.getModifiers()) && !method.isSynthetic()) {
                found.add(told(method));
            }
        }
        TreeSet<String> due = new TreeSet<>(Arrays.asList(FACE));
        for (String method : due) {
            Check.same(method, found.contains(method), true);
        }
        for (String method : found) {
            Check.same(method, due.contains(method), true);
        }
        Check.same("public constructors", type.getConstructors().length, 1);
        Check.same("all constructors", type.getDeclaredConstructors().length, 1);
        Check.same("final", Modifier.isFinal(type.getModifiers()), true);
        for (java.lang.reflect.Field field : type.getDeclaredFields()) {
            Check.same(field.getName(), Modifier.isPrivate(field.getModifiers()) || field.isSynthetic(), true);
        }
        Check.end();
    }

    private static String told(Method method) {
        StringBuilder all = new StringBuilder(method.getReturnType().getSimpleName());
        all.append(' ').append(method.getName()).append('(');
        for (int i = 0; i < method.getParameterCount(); i++) {
            all.append(i == 0 ? "" : ",").append(method.getParameterTypes()[i].getSimpleName());
        }
        all.append(')');
        for (Class<?> thrown : method.getExceptionTypes()) {
            all.append(' ').append(thrown.getSimpleName());
        }
        return all.toString();
    }
}
