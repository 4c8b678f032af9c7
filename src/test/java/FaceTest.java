import java.lang.reflect.Constructor;
import java.lang.reflect.Field;
import java.lang.reflect.Member;
import java.lang.reflect.Method;
import java.lang.reflect.Modifier;
import java.util.Arrays;
import java.util.Set;
import java.util.TreeSet;
import java.util.stream.Collectors;

/** The class shows the document's face and nothing else. */
public final class FaceTest {
    private static final String RANGE = "IllegalArgumentException";
    private static final String NONE_HELD = "IllegalStateException";
    private static final String UNSUPPORTED = "UnsupportedOperationException";
    private static final String BEYOND = "IndexOutOfBoundsException";
    private static final String[] FACE = {
        "int again() throws ",
        "int count(int) throws " + RANGE,
        "int end(int) throws " + RANGE,
        "int feed(int, int, int, int, int) throws " + BEYOND,
        "int get(int, int, int) throws " + RANGE + ", " + NONE_HELD,
        "int hash(int) throws " + RANGE + ", " + NONE_HELD,
        "int read(int) throws " + RANGE + ", " + UNSUPPORTED + ", " + BEYOND,
        "int set(int, int, int, int) throws " + RANGE + ", " + NONE_HELD,
        "int size(int, int) throws " + RANGE + ", " + NONE_HELD,
        "int write(int, int, int) throws " + RANGE + ", " + NONE_HELD + ", " + UNSUPPORTED + ", " + BEYOND,
        "long word(int) throws " + BEYOND,
        "void make(int, int, int, int) throws " + RANGE,
        "void paint(int, int, int, int) throws " + RANGE + ", " + NONE_HELD,
        "void patch(int, int, int) throws " + RANGE,
    };

    public static void main(String[] args) {
        Set<String> shown = new TreeSet<>();
        for (Method method : PictureDesk.class.getDeclaredMethods()) {
            if (isShown(method)) {
                shown.add(method.getReturnType() + " " + method.getName() + "("
                        + names(method.getParameterTypes()) + ") throws " + names(method.getExceptionTypes()));
            }
        }
        Set<String> due = new TreeSet<>(Arrays.asList(FACE));
        if (!shown.equals(due)) {
            System.out.println("shown are " + shown + ", due are " + due);
        }
        Check.due("the methods are the face's", shown.equals(due) ? 1 : 0, 1);
        for (Field field : PictureDesk.class.getDeclaredFields()) {
            Check.due("field " + field.getName() + " is shown", isShown(field) ? 1 : 0, 0);
        }
        Constructor<?>[] constructors = PictureDesk.class.getDeclaredConstructors();
        Check.due("constructors", constructors.length, 1);
        Check.due("the constructor's parameters", constructors[0].getParameterCount(), 0);
        Check.due("the class is final", Modifier.isFinal(PictureDesk.class.getModifiers()) ? 1 : 0, 1);
        Check.finish();
    }

    private static String names(Class<?>[] types) {
        return Arrays.stream(types).map(Class::getSimpleName).collect(Collectors.joining(", "));
    }

    private static boolean isShown(Member member) {
        return !Modifier.isPrivate(member.getModifiers()) && !member.isSynthetic();
    }
}
