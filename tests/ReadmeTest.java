import java.lang.reflect.Method;
import java.lang.reflect.Modifier;
import java.nio.file.Files;
import java.nio.file.Path;
import java.util.regex.Matcher;
import java.util.regex.Pattern;

/**
 * README.md: its example answers as it says, and it tells every call with all that the call is given. It bears no
 * promise's number; 0 stands for it.
 */
public final class ReadmeTest {
    private static final Pattern EXAMPLE = Pattern.compile("(?s)```java\n(.*?)```");
    private static final Pattern CALL = Pattern.compile("stick\\.(\\w+)\\(([^)]*)\\); +// (-?\\d+)\\b.*");
    private static final Pattern FED = Pattern.compile("for \\(char sign : \"(.*)\"\\.toCharArray\\(\\)\\) \\{ stick\\.feed\\(sign\\); \\}");

    public static void main(String[] args) throws Exception {
        String readme = Files.readString(Path.of("README.md"));
        exampleAnswers(readme);
        callsAreTold(readme);
        Due.end("ReadmeTest");
    }

    private static void exampleAnswers(String readme) throws Exception {
        Due.promise(0, "the example of README.md");
        Matcher example = EXAMPLE.matcher(readme);
        Due.holds("there is an example", example.find());
        String[] lines = example.group(1).split("\n");
        Due.text("its first line", lines[0], "BrokenThree stick = new BrokenThree();");
        BrokenThree stick = new BrokenThree();
        for (int i = 1; i < lines.length; i++) {
            Matcher fed = FED.matcher(lines[i]);
            Matcher call = CALL.matcher(lines[i]);
            if (fed.matches()) {
                Lay.feed(stick, fed.group(1));
            } else if (call.matches()) {
                Due.is(lines[i], answerOf(stick, call.group(1), call.group(2)), Long.parseLong(call.group(3)));
            } else {
                Due.text("a line that is no call", lines[i], "");
            }
        }
    }

    private static long answerOf(BrokenThree stick, String name, String given) throws Exception {
        String[] texts = given.isEmpty() ? new String[0] : given.split(", ");
        Object[] values = new Object[texts.length];
        for (int i = 0; i < texts.length; i++) {
            values[i] = Integer.valueOf(texts[i]);
        }
        return ((Number) methodOf(name).invoke(stick, values)).longValue();
    }

    private static Method methodOf(String name) {
        for (Method m : BrokenThree.class.getDeclaredMethods()) {
            if (Modifier.isPublic(m.getModifiers()) && m.getName().equals(name)) {
                return m;
            }
        }
        throw new IllegalArgumentException("README.md calls " + name + ", which is none");
    }

    private static void callsAreTold(String readme) {
        Due.promise(0, "the calls that README.md tells");
        for (Method m : BrokenThree.class.getDeclaredMethods()) {
            if (Modifier.isPublic(m.getModifiers())) {
                Matcher row = Pattern.compile("(?m)^\\| `" + m.getName() + "\\(([^)]*)\\)` \\|").matcher(readme);
                Due.holds(m.getName() + " has a row", row.find());
                int given = row.group(1).isEmpty() ? 0 : row.group(1).split(", ").length;
                Due.is("what is given to " + m.getName(), given, m.getParameterCount());
            }
        }
    }
}
