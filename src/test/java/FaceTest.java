import java.lang.reflect.Constructor;
import java.lang.reflect.Field;
import java.lang.reflect.Method;
import java.lang.reflect.Modifier;
import java.util.Arrays;
import java.util.Set;
import java.util.TreeSet;

/** The public face is the document's, and no other member can be seen from outside. */
public final class FaceTest {
    private static final Set<String> FACE = new TreeSet<>(Arrays.asList(
            "final int BAD_SET", "final int BAD_NUMBER", "final int NONE",
            "ContainerSets[]",
            "int add[int, int]", "int remove[int, int]", "int range[int, int, int]",
            "int combine[int, int, int, int]", "int shift[int, int]", "int clear[int]",
            "int tidy[int]", "boolean has[int, int]", "int size[int]", "int rank[int, int]",
            "int select[int, int]", "int next[int, int]", "int ranges[int]",
            "int common[int, int]", "boolean within[int, int]", "int countIn[int, int]"));

    public static void main(String[] args) {
        Checks checks = new Checks("FaceTest");
        Class<?> face = ContainerSets.class;
        checks.due("the class is public", Modifier.isPublic(face.getModifiers()), true);
        checks.due("the class is final", Modifier.isFinal(face.getModifiers()), true);
        checks.due("nested classes", face.getDeclaredClasses().length, 0);
        checks.due("BAD_SET", ContainerSets.BAD_SET, -1);
        checks.due("BAD_NUMBER", ContainerSets.BAD_NUMBER, -2);
        checks.due("NONE", ContainerSets.NONE, -3);

        Set<String> seen = seenFromOutside(face);
        for (String member : FACE) {
            checks.due("the face has " + member, seen.contains(member), true);
        }
        for (String member : seen) {
            checks.due("the document names " + member, FACE.contains(member), true);
        }
        checks.end();
    }

    private static Set<String> seenFromOutside(Class<?> face) {
        Set<String> seen = new TreeSet<>();
        for (Field field : face.getDeclaredFields()) {
            if (!Modifier.isPrivate(field.getModifiers())) {
                seen.add(kind(field.getModifiers(), Modifier.PUBLIC | Modifier.STATIC | Modifier.FINAL)
                        + "final " + field.getType() + " " + field.getName());
            }
        }
        for (Constructor<?> made : face.getDeclaredConstructors()) {
            if (!Modifier.isPrivate(made.getModifiers())) {
                seen.add(kind(made.getModifiers(), Modifier.PUBLIC) + "ContainerSets"
                        + Arrays.toString(made.getParameterTypes()));
            }
        }
        for (Method method : face.getDeclaredMethods()) {
            if (!Modifier.isPrivate(method.getModifiers())) {
                seen.add(kind(method.getModifiers(), Modifier.PUBLIC) + method.getReturnType() + " "
                        + method.getName() + Arrays.toString(method.getParameterTypes()));
            }
        }
        return seen;
    }

    /** Empty for the modifiers that are due, so that any others spoil the member's name. */
    private static String kind(int got, int want) {
        return got == want ? "" : "(" + Modifier.toString(got) + ") ";
    }
}
