import java.lang.reflect.Constructor;
import java.lang.reflect.Field;
import java.lang.reflect.Method;
import java.lang.reflect.Modifier;
import java.util.Arrays;
import java.util.TreeSet;

/** The public face: just the constants, the constructor and the methods of the document. */
public final class FaceTest {
    public static void main(String[] args) {
        Class<?> face = CapabilityVats.class;
        Script.due("the class", Modifier.toString(face.getModifiers()), "public final");
        TreeSet<String> members = new TreeSet<>();
        TreeSet<String> hidden = new TreeSet<>();
        for (Constructor<?> made : face.getDeclaredConstructors()) {
            members.add(made.toString());
        }
        for (Field field : face.getDeclaredFields()) {
            if (!Modifier.isPrivate(field.getModifiers())) {
                members.add(Modifier.toString(field.getModifiers()) + " " + field.getName());
            }
        }
        for (Method method : face.getDeclaredMethods()) {
            if (Modifier.isPrivate(method.getModifiers())) {
                hidden.add(method.getName());
            } else {
                members.add(method.getReturnType() + " " + method.getName() + Arrays.toString(method.getParameterTypes()));
                Script.due(method.getName(), Modifier.toString(method.getModifiers()), "public");
            }
        }
        Script.due("the members", members, new TreeSet<>(Arrays.asList(
                "public CapabilityVats()",
                "public static final BAD", "public static final FULL", "public static final NONE",
                "int cell[int]", "boolean number[int, int, int]", "boolean introduce[int, int, int]",
                "int send[int, int, int, int, int]", "int turn[int]", "int objects[]", "int kind[int]",
                "int home[int]", "int what[int, int]", "int which[int, int]", "int detail[int, int]",
                "int messages[]", "int place[int]", "int result[int]", "int value[int]", "int queued[int]",
                "int next[int, int]", "int waiting[int]", "int notes[int]")));
        for (Method method : face.getMethods()) {
            Script.due("hidden " + method.getName(), hidden.contains(method.getName()), false);
        }
        Script.due("BAD", CapabilityVats.BAD, -1);
        Script.due("FULL", CapabilityVats.FULL, -2);
        Script.due("NONE", CapabilityVats.NONE, -3);
        Script.end();
    }
}
