import java.lang.reflect.Constructor;
import java.lang.reflect.Field;
import java.lang.reflect.Method;
import java.lang.reflect.Modifier;
import java.util.Arrays;
import java.util.Set;
import java.util.TreeSet;

/** The class has the document's face, and nothing beside it that others could see. */
public final class FaceTest {
    private static final String[] METHODS = {
        "int set(int,int,int,int)", "int tilePart(int)", "int packet(int)", "int byteOf(int,int)",
        "int box(boolean,int)", "int boxByte(int,int)", "int write()", "int byteAt(int)", "int feed(int)",
        "int pass(int,int)", "int alter(int,int)", "int cut(int)", "int read()", "int at(int,int,int)",
        "int part(int,int)", "int partByte(int,int)", "int unknown(int,int)", "int told(int)", "void clear()"};

    public static void main(String[] args) {
        Set<String> seen = new TreeSet<>();
        for (Method method : WaveFiles.class.getDeclaredMethods()) {
            if (!Modifier.isPrivate(method.getModifiers()) && !method.isSynthetic()) {
                seen.add(told(method));
            }
        }
        Check.yes("the methods " + seen, seen.equals(new TreeSet<>(Arrays.asList(METHODS))));
        for (Field field : WaveFiles.class.getDeclaredFields()) {
            boolean isNone = field.getName().equals("NONE") && Modifier.isPublic(field.getModifiers());
            Check.yes("the field " + field.getName(), isNone || Modifier.isPrivate(field.getModifiers()));
        }
        Constructor<?>[] constructors = WaveFiles.class.getConstructors();
        Check.due("constructors", constructors.length, 1);
        Check.due("its parameters", constructors[0].getParameterCount(), 2);
        Check.yes("final and public", Modifier.isFinal(WaveFiles.class.getModifiers())
                && Modifier.isPublic(WaveFiles.class.getModifiers()));
        Check.due("NONE", WaveFiles.NONE, -1);
        Check.finish();
    }

    private static String told(Method method) {
        StringBuilder text = new StringBuilder();
        text.append(method.getReturnType().getSimpleName()).append(' ').append(method.getName()).append('(');
        for (Class<?> type : method.getParameterTypes()) {
            text.append(text.charAt(text.length() - 1) == '(' ? "" : ",").append(type.getSimpleName());
        }
        return text.append(')').toString();
    }
}
