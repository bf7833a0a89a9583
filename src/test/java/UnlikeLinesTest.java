import java.lang.reflect.Field;
import java.util.List;

/**
 * Promises 40 and 41 for lines that are not alike. No call brings that about, so the test reaches inside:
 * otherwise nothing would tell a comparison of the lines from an answer that is always the same.
 */
public final class UnlikeLinesTest {
    public static void main(String[] args) throws ReflectiveOperationException {
        otherWord();
        otherOrder();
        otherLength();
        otherCaret();
        otherAnswers();
        Check.finish();
    }

    /** What a field of an object holds, and so on along the names. */
    private static Object inside(Object object, String... names) throws ReflectiveOperationException {
        Object found = object;
        for (String name : names) {
            found = field(found, name).get(found);
        }
        return found;
    }

    private static Field field(Object object, String name) throws ReflectiveOperationException {
        Field field = object.getClass().getDeclaredField(name);
        field.setAccessible(true);
        return field;
    }

    @SuppressWarnings("unchecked")
    private static List<Integer> listOf(Caretline line) throws ReflectiveOperationException {
        return (List<Integer>) inside(line, "editor", "lines", "list", "words");
    }

    private static void otherWord() throws ReflectiveOperationException {
        for (int caret = 0; caret <= 3; caret++) {
            for (int index = 0; index < 3; index++) {
                Caretline line = Texts.filled("a b c", caret);
                listOf(line).set(index, 9);
                Check.isFalse("agree() with another word at " + index, line.agree());
                listOf(line).set(index, index + 1);
                Check.isTrue("agree() with the same word at " + index, line.agree());
            }
        }
    }

    private static void otherOrder() throws ReflectiveOperationException {
        Caretline line = Texts.filled("a b c", 1);
        listOf(line).add(listOf(line).remove(1));
        Check.isFalse("agree() in another order", line.agree());
    }

    private static void otherLength() throws ReflectiveOperationException {
        Caretline line = Texts.filled("a b c", 1);
        listOf(line).add(3);
        Check.isFalse("agree() with a word more", line.agree());
        listOf(line).remove(3);
        listOf(line).remove(2);
        Check.isFalse("agree() with a word less", line.agree());
    }

    private static void otherCaret() throws ReflectiveOperationException {
        Caretline line = Texts.filled("a a a", 1);
        Object list = inside(line, "editor", "lines", "list");
        field(list, "caret").setInt(list, 2);
        Check.isFalse("agree() with an iterator at another index", line.agree());
        field(list, "caret").setInt(list, 1);
        Check.isTrue("agree() with the iterators at the same index", line.agree());
    }

    private static void otherAnswers() throws ReflectiveOperationException {
        Caretline line = Texts.filled("a b c", 0);
        listOf(line).set(1, 9);
        line.next();
        Check.same("errors() behind an answer that is alike", line.errors(), 0);
        Check.same("next()", line.next(), 2);
        Check.same("errors() behind one that is not", line.errors(), 1);
        ((int[][]) inside(line, "editor", "lines", "rows", "rows"))[1][0] = 7;
        Check.same("next()", line.next(), 7);
        Check.same("errors() behind two", line.errors(), 2);
        line.clear();
        line.add(1);
        Check.same("errors() behind a clear", line.errors(), 2);
    }
}
