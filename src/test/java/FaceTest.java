import java.lang.reflect.Constructor;
import java.lang.reflect.Field;
import java.lang.reflect.Method;
import java.lang.reflect.Modifier;
import java.util.Arrays;
import java.util.Set;
import java.util.TreeSet;
import java.util.stream.Collectors;

/** The public face, as the document writes it, and nothing else that can be seen from outside. */
public final class FaceTest {
    private static final String FACE = """
        int append(int, int, int, int, int)
        int setup(int) throws IllegalArgumentException
        int load(int) throws IllegalArgumentException
        int errorPosition()
        int size(int) throws IllegalArgumentException
        int look(int, int) throws IndexOutOfBoundsException, IllegalArgumentException
        int around(int, int) throws IndexOutOfBoundsException
        int within(int, int) throws IndexOutOfBoundsException, NoSuchElementException
        int beside(int, boolean) throws IndexOutOfBoundsException, NoSuchElementException
        int lone(int)
        int count(int, int) throws IndexOutOfBoundsException, IllegalArgumentException
        int widest()
        double meanDepth()
        float share()
        int repairCost()
        int repairSteps()
        int repairStep(int, int) throws NoSuchElementException, IllegalArgumentException
        int costWithout(int) throws IndexOutOfBoundsException
        int culprit()
        int markAt(int) throws IndexOutOfBoundsException
        int report()
        int reportByte(int)
        int insert(int, int) throws IndexOutOfBoundsException, IllegalArgumentException
        int erase(int, int) throws IndexOutOfBoundsException
        int wrap(int, int, int) throws IndexOutOfBoundsException
        int unwrap(int) throws IndexOutOfBoundsException, NoSuchElementException
        int repair()
        int mark(int) throws IndexOutOfBoundsException
        int unmark(int) throws IndexOutOfBoundsException
        int setColours(int) throws IllegalArgumentException
        int setCosts(int, int, int) throws IllegalArgumentException
        int script(int) throws IllegalArgumentException
        int undo()
        boolean saveSnapshot(int) throws IndexOutOfBoundsException
        int restoreSnapshot(int) throws IndexOutOfBoundsException, IllegalStateException
        """;

    public static void main(String[] args) {
        Set<String> due = new TreeSet<>(Arrays.asList(FACE.split("\n")));
        Set<String> names = new TreeSet<>();
        Set<String> got = new TreeSet<>();
        for (Method method : BracketHall.class.getDeclaredMethods()) {
            if (!Modifier.isPrivate(method.getModifiers())) {
                got.add(signatureOf(method));
                names.add(method.getName());
            }
        }
        Check.dueText("methods of the face", String.join("\n", got), String.join("\n", due));
        Check.due("the class is public and final", BracketHall.class.getModifiers(), Modifier.PUBLIC | Modifier.FINAL);
        Check.dueText("constructors", Arrays.stream(BracketHall.class.getDeclaredConstructors())
            .map(Constructor::toString).collect(Collectors.joining()), "public BracketHall()");
        Check.dueText("fields", Arrays.stream(BracketHall.class.getDeclaredFields())
            .filter(f -> !Modifier.isPrivate(f.getModifiers())).map(Field::toString)
            .collect(Collectors.joining()), "public static final int BracketHall.NONE");
        for (Class<?> inside : BracketHall.class.getDeclaredClasses()) {
            checkInside(inside, names);
        }
        for (Method method : BracketHall.class.getDeclaredMethods()) {
            Check.due("no private method bears a public one's name: " + method,
                Modifier.isPrivate(method.getModifiers()) && names.contains(method.getName()) ? 1 : 0, 0);
        }
        Check.finish("FaceTest");
    }

    private static void checkInside(Class<?> inside, Set<String> names) {
        int modifiers = inside.getModifiers();
        Check.due(inside + " is static", Modifier.isStatic(modifiers) ? 1 : 0, 1);
        Check.due(inside + " is seen", modifiers & (Modifier.PUBLIC | Modifier.PROTECTED), 0);
        int fields = 0;
        for (Field field : inside.getDeclaredFields()) {
            fields += Modifier.isStatic(field.getModifiers()) ? 0 : 1;
            Check.due(field + " is static and can change",
                Modifier.isStatic(field.getModifiers()) && !Modifier.isFinal(field.getModifiers()) ? 1 : 0, 0);
        }
        Check.due(inside + " has more than 20 fields", fields > 20 ? 1 : 0, 0);
        for (Method method : inside.getDeclaredMethods()) {
            Check.due(method + " bears a public one's name", names.contains(method.getName()) ? 1 : 0, 0);
            Check.due(method + " has more than 7 parameters", method.getParameterCount() > 7 ? 1 : 0, 0);
        }
    }

    private static String signatureOf(Method method) {
        String parameters = Arrays.stream(method.getParameterTypes()).map(Class::getSimpleName)
            .collect(Collectors.joining(", "));
        String thrown = Arrays.stream(method.getExceptionTypes()).map(Class::getSimpleName)
            .collect(Collectors.joining(", "));
        return method.getReturnType().getSimpleName() + " " + method.getName() + "(" + parameters + ")"
            + (thrown.isEmpty() ? "" : " throws " + thrown);
    }
}
