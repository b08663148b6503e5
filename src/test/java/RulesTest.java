import java.io.IOException;
import java.nio.file.Files;
import java.nio.file.Path;
import java.util.regex.Matcher;
import java.util.regex.Pattern;

/** The rules of LANGUAGE.md that the words of the source alone can show; run from the project's root. */
public final class RulesTest {
    private static final Path SOURCE = Path.of("src/main/java/ContainerSets.java");
    private static final String FORBIDDEN = "import|package|class(?! ContainerSets )|interface|enum|record"
            + "|extends|implements|protected|float|double|var|null|throw|throws|try|catch|finally"
            + "|synchronized|assert|instanceof|native|Math|Integer|Long|Boolean|Character|String|System"
            + "|Arrays|Object|equals|hashCode|toString|getClass|clone|length";

    private static final Checks checks = new Checks("RulesTest");

    public static void main(String[] args) throws IOException {
        String source = Files.readString(SOURCE)
                .replaceAll("(?s)/\\*.*?\\*/", " ")
                .replaceAll("//[^\n]*", " ");
        none("a word or class left out by rules 1, 2, 3, 6", "\\b(" + FORBIDDEN + ")\\b", source);
        none("a lambda, method reference, text or annotation", "->|::|\"|@", source);
        none("an array of arrays", "\\[\\s*\\]\\s*\\[", source);
        none("an array or object made outside a field",
                "(?<!private final \\w{1,9}\\[\\] \\w{1,30} = )\\bnew\\b", source);
        none("a static initialiser", "static\\s*\\{", source);
        none("a static field that is no int or long constant",
                "\\bstatic (?!final (int|long) [A-Z_]+ = )(?!\\w+ \\w+\\()", source);
        none("a member without private or public", "(?m)^    (?!private |public |\\}| )\\S.*", source);
        none("a loop other than for, where rule 8 is easiest seen", "\\b(while|do)\\b", source);
        noCallInsideArguments(source);
        checks.end();
    }

    private static void none(String what, String pattern, String source) {
        Matcher found = Pattern.compile(pattern).matcher(source);
        boolean any = found.find();
        checks.due(what + (any ? " (" + found.group() + ")" : ""), any, false);
    }

    /** A call's name stands right before its bracket; an if or for has a blank there. */
    private static void noCallInsideArguments(String source) {
        Matcher call = Pattern.compile("\\b\\w+\\(").matcher(source);
        while (call.find()) {
            int end = closing(source, call.end());
            String inside = source.substring(call.end(), end);
            none("a call inside the arguments of " + call.group(), "\\b\\w+\\(", inside);
        }
    }

    private static int closing(String source, int from) {
        int open = 1;
        int at = from;
        while (at < source.length() && open > 0) {
            char c = source.charAt(at);
            open += c == '(' ? 1 : c == ')' ? -1 : 0;
            at++;
        }
        return at - 1;
    }
}
