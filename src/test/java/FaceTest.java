import java.lang.reflect.Constructor;
import java.lang.reflect.Field;
import java.lang.reflect.Member;
import java.lang.reflect.Method;
import java.lang.reflect.Modifier;
import java.util.Arrays;
import java.util.Set;
import java.util.TreeSet;

/** The class shows the document's face and nothing else. */
public final class FaceTest {
    private static final String[] FACE = {
        "int again()",
        "int count(int)",
        "int end(int)",
        "int feed(int, int, int, int, int)",
        "int get(int, int, int)",
        "int hash(int)",
        "int read(int)",
        "int set(int, int, int, int)",
        "int size(int, int)",
        "int write(int, int, int)",
        "long word(int)",
        "void make(int, int, int, int)",
        "void paint(int, int, int, int)",
        "void patch(int, int, int)",
    };

    public static void main(String[] args) {
        Set<String> shown = new TreeSet<>();
        for (Method method : PictureDesk.class.getDeclaredMethods()) {
            if (isShown(method)) {
                String taken = Arrays.toString(method.getParameterTypes());
                shown.add(method.getReturnType() + " " + method.getName() + "("
                        + taken.substring(1, taken.length() - 1) + ")");
            }
        }
        Set<String> due = new TreeSet<>(Arrays.asList(FACE));
        if (!shown.equals(due)) {
            System.out.println("shown are " + shown + ", due are " + due);
        }
        Check.due("the methods are the face's", shown.equals(due) ? 1 : 0, 1);
        for (Field field : PictureDesk.class.getDeclaredFields()) {
            Check.due("field " + field.getName() + " is shown", isShown(field) ? 1 : 0, 0);
        }
        Constructor<?>[] constructors = PictureDesk.class.getDeclaredConstructors();
        Check.due("constructors", constructors.length, 1);
        Check.due("the constructor's parameters", constructors[0].getParameterCount(), 0);
        Check.due("the class is final", Modifier.isFinal(PictureDesk.class.getModifiers()) ? 1 : 0, 1);
        Check.finish();
    }

    private static boolean isShown(Member member) {
        return !Modifier.isPrivate(member.getModifiers()) && !member.isSynthetic();
    }
}
