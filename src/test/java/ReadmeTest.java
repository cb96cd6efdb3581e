import java.lang.reflect.Method;
import java.nio.file.Files;
import java.nio.file.Path;
import java.util.Arrays;
import java.util.HashMap;
import java.util.List;
import java.util.Map;
import java.util.regex.Matcher;
import java.util.regex.Pattern;

/** The examples of README.md are read out of it and done, so that none of them can say what the class does not. */
public final class ReadmeTest {
    private static final String NEW_OBJECT = "MailProcesses x = new MailProcesses();";
    private static final Pattern CALL = Pattern.compile("(?:int (\\w+) = )?x\\.(\\w+)\\((.*?)\\); +// -> (-?\\w+)(?:: .*)?");

    private final Checks checks;
    private final Map<String, Integer> names = new HashMap<>();
    private final MailProcesses x = new MailProcesses();

    private ReadmeTest(Checks checks) {
        this.checks = checks;
    }

    public static void main(String[] args) throws Exception {
        Checks checks = new Checks();
        ReadmeTest example = null;
        int examples = 0;
        for (String line : examplesOf(Files.readString(Path.of("README.md")))) {
            if (line.equals(NEW_OBJECT)) {
                example = new ReadmeTest(checks);
                examples++;
            } else {
                example.call(line);
            }
        }
        checks.due("examples in README.md", examples, 3);
        checks.end();
    }

    private static List<String> examplesOf(String text) {
        return Pattern.compile("```java\n(.*?)```", Pattern.DOTALL).matcher(text).results()
            .flatMap(block -> block.group(1).lines()).toList();
    }

    private void call(String line) throws ReflectiveOperationException {
        Matcher parts = CALL.matcher(line);
        checks.due("README.md is a call with its answer: " + line, parts.matches(), true);
        Object answer = answer(parts.group(2), parts.group(3));
        checks.due("README.md: " + line + " (answered " + answer + ")", parts.group(4).equals(String.valueOf(answer)), true);
        if (parts.group(1) != null) {
            names.put(parts.group(1), (Integer) answer);
        }
    }

    private Object answer(String name, String list) throws ReflectiveOperationException {
        Object[] arguments = list.isEmpty() ? new Object[0] : Pattern.compile(", ").splitAsStream(list).map(this::value).toArray();
        Class<?>[] types = new Class<?>[arguments.length];
        Arrays.fill(types, int.class);
        Method method = MailProcesses.class.getMethod(name, types);
        return method.invoke(x, arguments);
    }

    private Integer value(String word) {
        return names.containsKey(word) ? names.get(word) : Integer.valueOf(word);
    }
}
