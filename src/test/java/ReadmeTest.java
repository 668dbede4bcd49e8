import java.io.IOException;
import java.lang.reflect.Method;
import java.lang.reflect.Modifier;
import java.nio.file.DirectoryStream;
import java.nio.file.Files;
import java.nio.file.Path;
import java.util.ArrayList;
import java.util.List;
import java.util.Set;
import java.util.TreeSet;
import java.util.regex.Matcher;
import java.util.regex.Pattern;

/** Does the calls of README.md's examples and compares the answers that stand there behind them. */
public final class ReadmeTest {
    private static final Path README = Path.of("README.md");
    private static final String NEW = "ZRoutines z = new ZRoutines();";
    private static final String ONE_CALL = "z\\.(\\w+)\\((-?\\d+(?:, -?\\d+)*)\\);";
    private static final Pattern CALL = Pattern.compile(ONE_CALL);
    private static final Pattern LINE = Pattern.compile(
        "(?<calls>" + ONE_CALL + "(?: " + ONE_CALL + ")*)\\s+// (?<answers>-?\\d+(?:, -?\\d+)*)(?::.*)?");

    private final Check check = new Check("ReadmeTest");
    private final Set<String> shownCalls = new TreeSet<>();
    private final Set<Integer> shownAnswers = new TreeSet<>();

    public static void main(String[] args) throws IOException, ReflectiveOperationException {
        new ReadmeTest().test(Files.readAllLines(README));
    }

    private void test(List<String> readme) throws IOException, ReflectiveOperationException {
        int examples = 0;
        for (int i = 0; i < readme.size(); i++) {
            if (readme.get(i).equals("```java")) {
                i = doExample(readme, i + 1);
                examples++;
            }
        }
        check.due("README.md has examples", examples > 0 ? 1 : 0, 1);
        checkShown();
        checkTestsNamed(String.join("\n", readme));
        check.finish();
    }

    /** Does the lines from the first one of an example on: the index of the line that ends it. */
    private int doExample(List<String> readme, int from) throws ReflectiveOperationException {
        ZRoutines z = null;
        int i = from;
        for (; i < readme.size() && !readme.get(i).equals("```"); i++) {
            String where = "README.md, line " + (i + 1);
            if (readme.get(i).equals(NEW)) {
                z = new ZRoutines();
            } else {
                doLine(where, z, readme.get(i));
            }
        }
        return i;
    }

    private void doLine(String where, ZRoutines z, String text) throws ReflectiveOperationException {
        Matcher line = LINE.matcher(text);
        // A line that this test can't read would be an example that nobody tests.
        boolean isRead = z != null && line.matches();
        check.due(where + " is calls with answers: " + text, isRead ? 1 : 0, 1);
        if (!isRead) {
            return;
        }
        List<String> calls = new ArrayList<>();
        List<Integer> got = new ArrayList<>();
        Matcher call = CALL.matcher(line.group("calls"));
        while (call.find()) {
            calls.add(call.group());
            got.add(answer(z, call.group(1), numbers(call.group(2))));
            shownCalls.add(call.group(1));
        }
        compare(where, calls, got, numbers(line.group("answers")));
    }

    private void compare(String where, List<String> calls, List<Integer> got, int[] want) {
        check.due(where + ": answers shown", want.length, calls.size());
        for (int i = 0; i < calls.size() && i < want.length; i++) {
            check.due(where + ": " + calls.get(i), got.get(i), want[i]);
            shownAnswers.add(want[i]);
        }
    }

    private static int answer(ZRoutines z, String name, int[] arguments) throws ReflectiveOperationException {
        Class<?>[] types = new Class<?>[arguments.length];
        Object[] boxed = new Object[arguments.length];
        for (int i = 0; i < arguments.length; i++) {
            types[i] = int.class;
            boxed[i] = arguments[i];
        }
        return (int) ZRoutines.class.getMethod(name, types).invoke(z, boxed);
    }

    private static int[] numbers(String text) {
        String[] parts = text.split(", ");
        int[] numbers = new int[parts.length];
        for (int i = 0; i < parts.length; i++) {
            numbers[i] = Integer.parseInt(parts[i]);
        }
        return numbers;
    }

    /** The examples show every call, both refusals and a run that went wrong. */
    private void checkShown() {
        for (Method method : ZRoutines.class.getDeclaredMethods()) {
            if (Modifier.isPublic(method.getModifiers())) {
                String name = method.getName();
                check.due("an example shows " + name, shownCalls.contains(name) ? 1 : 0, 1);
            }
        }
        check.due("an example shows BAD", shownAnswers.contains(ZRoutines.BAD) ? 1 : 0, 1);
        check.due("an example shows FULL", shownAnswers.contains(ZRoutines.FULL) ? 1 : 0, 1);
        boolean isFaultShown = shownAnswers.stream().anyMatch(x -> x < -50000 && x >= -50011);
        check.due("an example shows a fault", isFaultShown ? 1 : 0, 1);
    }

    private void checkTestsNamed(String readme) throws IOException {
        try (DirectoryStream<Path> tests = Files.newDirectoryStream(Path.of("src/test/java"), "*Test.java")) {
            for (Path test : tests) {
                String name = test.getFileName().toString().replace(".java", "");
                check.due("README.md names " + name, readme.contains("`" + name + "`") ? 1 : 0, 1);
            }
        }
    }
}
