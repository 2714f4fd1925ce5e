import java.io.IOException;
import java.lang.reflect.Method;
import java.lang.reflect.Modifier;
import java.nio.file.Files;
import java.nio.file.Path;
import java.util.List;
import java.util.Map;
import java.util.regex.Matcher;
import java.util.regex.Pattern;

/** The example in README.md: each call answers what stands behind it. Runs in the project's folder. */
public final class ReadmeTest {
    private static final Pattern CALL = Pattern.compile("desk\\.(\\w+)\\(([^)]*)\\); +// (-?\\d+|[A-Z]+)\\b.*");
    private static final Map<String, Integer> WORDS = Map.of("BAD", ArcDesk.BAD, "FULL", ArcDesk.FULL,
            "DONE", ArcDesk.DONE, "FAILED", ArcDesk.FAILED, "LONG", ArcDesk.LONG);

    public static void main(String[] args) throws ReflectiveOperationException, IOException {
        String readme = Files.readString(Path.of("README.md"));
        int start = readme.indexOf("```java\n");
        int end = readme.indexOf("```", start + 3);
        Checks.holds("README.md has an example", start >= 0 && end > start);
        List<String> example = readme.substring(start, end).lines().filter(line -> line.startsWith("desk.")).toList();
        ArcDesk desk = new ArcDesk();
        for (String line : example) {
            answersAsTold(desk, line);
        }
        for (Method method : ArcDesk.class.getDeclaredMethods()) {
            if (Modifier.isPublic(method.getModifiers())) {
                String call = "desk." + method.getName() + "(";
                Checks.holds("the example has " + call, example.stream().anyMatch(line -> line.startsWith(call)));
            }
        }
        Checks.holds("README.md tells how the tests are run", readme.contains(".ci/run"));
        Checks.finish();
    }

    private static void answersAsTold(ArcDesk desk, String line) throws ReflectiveOperationException {
        Matcher call = CALL.matcher(line);
        if (!call.matches()) {
            Checks.holds("the example tells an answer: " + line, false);
            return;
        }
        String told = call.group(3);
        int want = WORDS.containsKey(told) ? WORDS.get(told) : Integer.parseInt(told);
        String[] given = call.group(2).split(", ");
        Object[] numbers = new Object[given.length];
        Class<?>[] types = new Class<?>[given.length];
        for (int i = 0; i < given.length; i++) {
            boolean isFlag = given[i].equals("true") || given[i].equals("false");
            types[i] = isFlag ? boolean.class : int.class;
            numbers[i] = isFlag ? (Object) Boolean.valueOf(given[i]) : (Object) Integer.valueOf(given[i]);
        }
        Object got = ArcDesk.class.getMethod(call.group(1), types).invoke(desk, numbers);
        Checks.due(line, (Integer) got, want);
    }
}
