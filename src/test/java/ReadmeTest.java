import java.lang.reflect.Method;
import java.nio.file.Files;
import java.nio.file.Path;
import java.util.Arrays;
import java.util.regex.Matcher;
import java.util.regex.Pattern;

/** README.md's example, call by call with the answers beside them, and its table of calls; run from the project's folder. */
public final class ReadmeTest {
    private static final Check check = new Check();
    private static final Pattern TEXT = Pattern.compile("for \\(char c : \"([^\"]*)\"");
    private static final Pattern CALL = Pattern.compile("x\\.(\\w+)\\(([-0-9, ]*)\\); *// (-?\\d+):.*");

    public static void main(String[] args) throws Exception {
        String readme = Files.readString(Path.of("README.md"));
        example(readme);
        tableOfCalls(readme);
        check.end();
    }

    private static void example(String readme) throws Exception {
        int start = readme.indexOf("```java\n") + 8;
        String[] lines = readme.substring(start, readme.indexOf("```", start)).split("\n");
        HeavyChains x = new HeavyChains();
        for (String line : lines) {
            Matcher text = TEXT.matcher(line);
            if (text.find()) {
                Check.write(x, text.group(1));
            } else if (line.startsWith("x.")) {
                call(x, line);
            }
        }
    }

    private static void call(HeavyChains x, String line) throws Exception {
        Matcher call = CALL.matcher(line);
        check.due("a call with its answer: " + line, call.matches() ? 1 : 0, 1);
        if (!call.matches()) {
            return;
        }
        Object[] numbers = call.group(2).isEmpty() ? new Object[0]
                : Arrays.stream(call.group(2).split(", ")).map(Integer::valueOf).toArray();
        Class<?>[] ints = new Class<?>[numbers.length];
        Arrays.fill(ints, int.class);
        Method method = HeavyChains.class.getMethod(call.group(1), ints);
        check.due(line, (Integer) method.invoke(x, numbers), Integer.parseInt(call.group(3)));
    }

    private static void tableOfCalls(String readme) {
        for (Method method : HeavyChains.class.getDeclaredMethods()) {
            if (java.lang.reflect.Modifier.isPublic(method.getModifiers())) {
                String cell = "(?s).*\n\\| [^|]*`" + method.getName() + "`[^|]*\\|.*";
                check.due("the table has " + method.getName(), readme.matches(cell) ? 1 : 0, 1);
            }
        }
    }
}
