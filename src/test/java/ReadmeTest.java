import java.io.IOException;
import java.lang.reflect.Method;
import java.lang.reflect.Modifier;
import java.nio.file.Files;
import java.nio.file.Path;
import java.util.ArrayList;
import java.util.HashMap;
import java.util.List;
import java.util.Map;
import java.util.regex.Matcher;
import java.util.regex.Pattern;

/** What README.md says of the class: its example answers so, and every call is named there. */
public final class ReadmeTest {
    private static final Pattern CALL =
            Pattern.compile("(?:int (\\w+) = )?x\\.(\\w+)\\((.*?)\\); +// (-?\\w+)(?:: .*)?");

    private static final Map<String, String> NAMED = new HashMap<>(Map.of("true", "1", "false", "0"));

    public static void main(String[] args) throws IOException {
        String readme = Files.readString(Path.of("README.md"));
        everyCallIsNamed(readme);
        example(readme);
        Check.done();
    }

    private static void everyCallIsNamed(String readme) {
        for (Method method : DieGraphs.class.getDeclaredMethods()) {
            if (Modifier.isPublic(method.getModifiers())) {
                String named = "(?s).*`" + method.getName() + "\\(" + "(\\w+, )".repeat(commas(method)) + "\\w*\\)`.*";
                Check.same(method.getName() + " is named", readme.matches(named), true);
            }
        }
    }

    private static int commas(Method method) {
        return Math.max(0, method.getParameterCount() - 1);
    }

    private static void example(String readme) {
        String block = readme.replaceAll("(?s).*?```java\n(.*?)```.*", "$1");
        String[] lines = block.split("\n");
        Check.same("the example's first line", lines[0], "DieGraphs x = new DieGraphs();");
        DieGraphs x = new DieGraphs();
        for (int i = 1; i < lines.length; i++) {
            Matcher call = CALL.matcher(lines[i]);
            boolean isCall = call.matches();
            Check.same(lines[i] + " is a call with its answer", isCall, true);
            if (isCall) {
                String got = Step.of(call.group(2), numbers(call.group(3))).on(x);
                Check.same(lines[i], got, NAMED.getOrDefault(call.group(4), call.group(4)));
                NAMED.put(String.valueOf(call.group(1)), got);
            }
        }
    }

    private static int[] numbers(String arguments) {
        List<Integer> found = new ArrayList<>();
        for (String argument : arguments.isEmpty() ? new String[0] : arguments.split(", ")) {
            found.add(Integer.decode(NAMED.getOrDefault(argument, argument)));
        }
        return found.stream().mapToInt(Integer::intValue).toArray();
    }
}
