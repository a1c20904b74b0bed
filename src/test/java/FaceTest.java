import java.lang.reflect.Constructor;
import java.lang.reflect.Field;
import java.lang.reflect.Method;
import java.lang.reflect.Modifier;
import java.util.Arrays;
import java.util.Set;
import java.util.TreeSet;

/** The class has the document's face, and nothing beside it that others could see. */
public final class FaceTest {
    private static final String INDEX = " IndexOutOfBoundsException";
    private static final String STATE = " IllegalStateException";
    private static final String ARGUMENT = " IllegalArgumentException";
    private static final String NO_ROOM = " UnsupportedOperationException";

    /** With the exceptions that it names, in the order in which they come first. */
    private static final String[] METHODS = {
        "int set(int,int,int,int)" + INDEX + STATE + ARGUMENT,
        "int tilePart(int)" + INDEX + NO_ROOM,
        "int packet(int)" + INDEX + NO_ROOM,
        "int byteOf(int,int)" + INDEX + STATE + ARGUMENT + NO_ROOM,
        "int box(boolean,int)" + ARGUMENT + NO_ROOM,
        "int boxByte(int,int)" + INDEX + ARGUMENT + NO_ROOM,
        "int write()",
        "int byteAt(int)" + INDEX,
        "int feed(int)" + ARGUMENT + NO_ROOM,
        "int pass(int,int)" + INDEX + ARGUMENT + NO_ROOM,
        "int alter(int,int)" + INDEX + ARGUMENT,
        "int cut(int)" + ARGUMENT,
        "int read()",
        "int at(int,int,int)" + STATE + INDEX,
        "int part(int,int)" + STATE + INDEX,
        "int partByte(int,int)" + STATE + INDEX,
        "int unknown(int,int)" + INDEX,
        "int told(int)",
        "void clear()"};

    public static void main(String[] args) {
        Set<String> seen = new TreeSet<>();
        for (Method method : WaveFiles.class.getDeclaredMethods()) {
            if (!Modifier.isPrivate(method.getModifiers()) && !method.isSynthetic()) {
                seen.add(told(method));
                Check.yes(method.getName() + " is public and of an object", Modifier.isPublic(method.getModifiers())
                        && !Modifier.isStatic(method.getModifiers()));
            }
        }
        Check.yes("the methods " + seen, seen.equals(new TreeSet<>(Arrays.asList(METHODS))));
        for (Field field : WaveFiles.class.getDeclaredFields()) {
            boolean isNone = field.getName().equals("NONE") && Modifier.isPublic(field.getModifiers());
            Check.yes("the field " + field.getName(), isNone || Modifier.isPrivate(field.getModifiers()));
        }
        Constructor<?>[] constructors = WaveFiles.class.getDeclaredConstructors();
        Check.due("constructors", constructors.length, 1);
        Check.yes("it is public", Modifier.isPublic(constructors[0].getModifiers()));
        Check.yes("its parameters", Arrays.equals(constructors[0].getParameterTypes(),
                new Class<?>[] {int.class, int.class}));
        Check.yes("final and public", Modifier.isFinal(WaveFiles.class.getModifiers())
                && Modifier.isPublic(WaveFiles.class.getModifiers()));
        Check.due("NONE", WaveFiles.NONE, -1);
        Check.finish();
    }

    private static String told(Method method) {
        StringBuilder text = new StringBuilder();
        text.append(method.getReturnType().getSimpleName()).append(' ').append(method.getName()).append('(');
        for (Class<?> type : method.getParameterTypes()) {
            text.append(text.charAt(text.length() - 1) == '(' ? "" : ",").append(type.getSimpleName());
        }
        text.append(')');
        for (Class<?> thrown : method.getExceptionTypes()) {
            text.append(' ').append(thrown.getSimpleName());
        }
        return text.toString();
    }
}
