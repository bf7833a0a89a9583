import java.lang.reflect.Constructor;
import java.lang.reflect.Field;
import java.lang.reflect.Method;
import java.lang.reflect.Modifier;
import java.util.Arrays;
import java.util.Set;
import java.util.TreeSet;
import java.util.stream.Collectors;

/** The document's face, and that there is nothing beside it. */
public final class FaceTest {
    private static final String METHODS = "int next()|int previous()|int add(int)|int set(int)|int remove()"
        + "|int move(int)|int find(int, boolean)|int swap()|int undo()|int undoable()"
        + "|int append(int, int, int, int, int)|int clearTape()|int fill()|int run()|int errorPosition()|int endedBy()"
        + "|int nextIndex()|int previousIndex()|boolean hasNext()|boolean hasPrevious()|int ahead(int)|int behind(int)"
        + "|int given()|int givenBy()|int refusedNow()|int size()|int wordAt(int)|int indexOf(int)|int lastIndexOf(int)"
        + "|int count(int)|int unlike()|int clear()|int write()|int writtenAt(int)|int refusals(int)|int acts()"
        + "|double meanLetters()|float caretShare()|boolean agree()|int errors()";
    private static final String CONSTANTS = "NONE|NO_ELEMENT|NO_STATE|NO_INDEX|FULL|TOO_MANY";
    private static final String THROWING = "add IllegalArgumentException|set IllegalArgumentException"
        + "|find IllegalArgumentException|append IllegalStateException|fill IllegalArgumentException"
        + "|run IllegalArgumentException|wordAt IndexOutOfBoundsException|indexOf IllegalArgumentException"
        + "|lastIndexOf IllegalArgumentException|count IllegalArgumentException|writtenAt IndexOutOfBoundsException"
        + "|refusals IllegalArgumentException";

    public static void main(String[] args) {
        Class<?> face = Caretline.class;
        Check.isTrue("the class is public and final",
            Modifier.isPublic(face.getModifiers()) && Modifier.isFinal(face.getModifiers()));
        methods(face);
        constants(face);
        Constructor<?>[] constructors = face.getDeclaredConstructors();
        Check.same("constructors", constructors.length, 1);
        Check.isTrue("it is public and without parameters",
            Modifier.isPublic(constructors[0].getModifiers()) && constructors[0].getParameterCount() == 0);
        for (Class<?> inside : face.getDeclaredClasses()) {
            Check.isTrue(inside + " is static and not public",
                Modifier.isStatic(inside.getModifiers()) && !Modifier.isPublic(inside.getModifiers()));
        }
        Check.finish();
    }

    private static void methods(Class<?> face) {
        Set<String> found = new TreeSet<>();
        Set<String> names = new TreeSet<>();
        Set<String> throwing = new TreeSet<>();
        for (Method method : face.getDeclaredMethods()) {
            if (Modifier.isPublic(method.getModifiers())) {
                found.add(signature(method));
                names.add(method.getName());
                for (Class<?> thrown : method.getExceptionTypes()) {
                    throwing.add(method.getName() + " " + thrown.getSimpleName());
                }
                Check.isFalse(method + " is static", Modifier.isStatic(method.getModifiers()));
            }
        }
        Check.same("public methods", String.join("|", found), sorted(METHODS));
        Check.same("what they say that they throw", String.join("|", throwing), sorted(THROWING));
        for (Method method : face.getDeclaredMethods()) {
            if (!Modifier.isPublic(method.getModifiers())) {
                Check.isTrue(method + " is private", Modifier.isPrivate(method.getModifiers()));
                Check.isFalse(method + " bears a public name", names.contains(method.getName()));
            }
        }
    }

    private static String sorted(String names) {
        return String.join("|", new TreeSet<>(Arrays.asList(names.split("\\|"))));
    }

    private static String signature(Method method) {
        String parameters = Arrays.stream(method.getParameterTypes()).map(Class::getName)
            .collect(Collectors.joining(", "));
        return method.getReturnType().getName() + " " + method.getName() + "(" + parameters + ")";
    }

    private static void constants(Class<?> face) {
        Set<String> found = new TreeSet<>();
        for (Field field : face.getDeclaredFields()) {
            int modifiers = field.getModifiers();
            if (Modifier.isPublic(modifiers)) {
                found.add(field.getName());
                Check.isTrue(field + " is a constant int", Modifier.isStatic(modifiers)
                    && Modifier.isFinal(modifiers) && field.getType() == int.class);
            } else {
                Check.isTrue(field + " is private", Modifier.isPrivate(modifiers));
            }
        }
        Check.same("public constants", String.join("|", found), sorted(CONSTANTS));
    }
}
