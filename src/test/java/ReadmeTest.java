import java.io.IOException;
import java.lang.reflect.Method;
import java.lang.reflect.Modifier;
import java.nio.file.Files;
import java.nio.file.Path;
import java.util.Map;
import java.util.Set;
import java.util.TreeSet;
import java.util.regex.Matcher;
import java.util.regex.Pattern;

/** The example of README.md answers what it says, and shows every call; run from the project's root. */
public final class ReadmeTest {
    private static final Pattern LINE = Pattern.compile("sets\\.(\\w+)\\((.*)\\); +// ([\\w-]+)(:.*)?");
    private static final Map<String, Integer> NAMED = Map.of("BAD_SET", ContainerSets.BAD_SET,
            "BAD_NUMBER", ContainerSets.BAD_NUMBER, "NONE", ContainerSets.NONE);

    private static final Checks checks = new Checks("ReadmeTest");

    public static void main(String[] args) throws IOException, ReflectiveOperationException {
        ContainerSets sets = new ContainerSets();
        Set<String> shown = new TreeSet<>();
        for (String text : Files.readAllLines(Path.of("README.md"))) {
            if (text.startsWith("sets.")) {
                Matcher line = LINE.matcher(text);
                checks.kept("a call and its answer: " + text, line.matches());
                String answer = answer(sets, line.group(1), line.group(2).split(", "));
                String named = line.group(3);
                String due = NAMED.containsKey(named) ? NAMED.get(named).toString() : named;
                checks.kept(text + " (answered " + answer + ")", answer.equals(due));
                shown.add(line.group(1));
                shown.add(named);
            }
        }
        for (Method call : ContainerSets.class.getDeclaredMethods()) {
            if (Modifier.isPublic(call.getModifiers())) {
                checks.kept("README.md shows " + call.getName(), shown.contains(call.getName()));
            }
        }
        for (String constant : NAMED.keySet()) {
            checks.kept("README.md shows " + constant, shown.contains(constant));
        }
        checks.end();
    }

    private static String answer(ContainerSets sets, String name, String[] arguments)
            throws ReflectiveOperationException {
        Class<?>[] types = new Class<?>[arguments.length];
        Object[] values = new Object[arguments.length];
        for (int i = 0; i < arguments.length; i++) {
            types[i] = int.class;
            values[i] = value(arguments[i]);
        }
        return ContainerSets.class.getMethod(name, types).invoke(sets, values).toString();
    }

    /** A number, or a range as a + 2048 * b. */
    private static int value(String text) {
        String[] ends = text.split(" \\+ 2048 \\* ");
        int a = Integer.parseInt(ends[0]);
        return ends.length == 1 ? a : Checks.ends(a, Integer.parseInt(ends[1]));
    }
}
