import java.lang.reflect.InvocationTargetException;
import java.lang.reflect.Method;
import java.lang.reflect.Modifier;
import java.util.Arrays;

/**
 * Rules 7 and 11 of LANGUAGE.md: no call throws, for any arguments in any state, and the same calls
 * always give the same answers. The rules know no 512th call, so the objects here go on after it.
 */
public final class AnyArgumentsTest {
    private static final int[] ARGUMENTS = {Checks.LEAST, -65536, -1025, -1024, -1023, -1, 0, 1, 2, 3, 4,
        1023, 1024, 1025, 2047, Checks.ends(0, 1024), Checks.ends(0, 1025), 1 << 22, Checks.MOST};

    private static final Checks checks = new Checks("AnyArgumentsTest");

    public static void main(String[] args) throws IllegalAccessException {
        for (Method call : ContainerSets.class.getDeclaredMethods()) {
            if (Modifier.isPublic(call.getModifiers())) {
                withAllArguments(made(0), made(0), call);
                withAllArguments(made(1), made(1), call);
                withAllArguments(made(1024), made(1024), call);
            }
        }
        checks.end();
    }

    /** Every set has this many numbers, from 0. */
    private static ContainerSets made(int numbers) {
        ContainerSets sets = new ContainerSets();
        for (int s = 0; s < 4; s++) {
            sets.range(s, Checks.ends(0, numbers), 0);
        }
        return sets;
    }

    private static void withAllArguments(ContainerSets one, ContainerSets other, Method call)
            throws IllegalAccessException {
        int places = call.getParameterCount();
        int ways = 1;
        for (int place = 0; place < places; place++) {
            ways *= ARGUMENTS.length;
        }
        for (int way = 0; way < ways; way++) {
            Object[] arguments = arguments(way, places);
            String answer = answer(one, call, arguments);
            String text = call.getName() + Arrays.toString(arguments) + " answered " + answer;
            checks.kept("rule 7: no call throws: " + text, !answer.startsWith("thrown"));
            checks.kept("rule 11: the same calls give the same answers: " + text,
                    answer.equals(answer(other, call, arguments)));
        }
    }

    private static Object[] arguments(int way, int places) {
        Object[] arguments = new Object[places];
        int left = way;
        for (int place = 0; place < places; place++) {
            arguments[place] = ARGUMENTS[left % ARGUMENTS.length];
            left /= ARGUMENTS.length;
        }
        return arguments;
    }

    private static String answer(ContainerSets sets, Method call, Object[] arguments)
            throws IllegalAccessException {
        try {
            return call.invoke(sets, arguments).toString();
        } catch (InvocationTargetException thrown) {
            return "thrown " + thrown.getCause();
        }
    }
}
