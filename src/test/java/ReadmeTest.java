import java.io.IOException;
import java.lang.reflect.Method;
import java.lang.reflect.Modifier;
import java.nio.file.DirectoryStream;
import java.nio.file.Files;
import java.nio.file.Path;
import java.util.List;
import java.util.Set;
import java.util.TreeSet;
import java.util.regex.Matcher;
import java.util.regex.Pattern;

/** That README.md says how to use the class as it is: its example, its calls, its findings, its tests. */
public final class ReadmeTest {
    private static final Pattern CALL = Pattern.compile("x\\.(\\w+)\\(([^)]*)\\);\\s*// (-?\\d+)(:.*)?");
    private static final Pattern ROW = Pattern.compile("\\| `(\\w+)\\(([^)]*)\\)` \\| .+ \\|");
    private static final Pattern FINDING = Pattern.compile("\\| (-\\d+) \\| ([A-Z]+): .+ \\| (\\d) \\|");
    private static final Pattern TEST = Pattern.compile("\\| (\\w+Test) \\| .+ \\|");
    private static final String[] FINDINGS = {"BEYOND", "FULL", "KIND", "NONE", "STATE", "MISSING", "SIZE"};

    public static void main(String[] args) throws IOException, ReflectiveOperationException {
        List<String> page = Files.readAllLines(Path.of("README.md"));
        example(page);
        calls(page);
        findings(page);
        text(page);
        tests(page);
        Check.end();
    }

    /** Each call of the example, one after the other on one object, answers what stands behind it. */
    private static void example(List<String> page) throws ReflectiveOperationException {
        int from = page.indexOf("```java") + 1;
        Check.due("the example's first line", page.get(from).equals("FeltHouse x = new FeltHouse();") ? 1 : 0, 1);
        FeltHouse x = new FeltHouse();
        int asked = 0;
        for (int i = from + 1; i < page.size() && !page.get(i).equals("```"); i++) {
            Matcher call = CALL.matcher(page.get(i));
            Check.holds("README.md: a call with its answer: " + page.get(i), call.matches());
            if (call.matches()) {
                Check.due("README.md: " + page.get(i), answer(x, call.group(1), call.group(2)),
                        Long.parseLong(call.group(3)));
                asked++;
            }
        }
        Check.holds("README.md: the example has calls", asked > 0);
    }

    private static long answer(FeltHouse x, String name, String arguments) throws ReflectiveOperationException {
        Method method = method(name);
        String[] told = split(arguments);
        Object[] given = new Object[told.length];
        for (int i = 0; i < told.length; i++) {
            Class<?> type = i < method.getParameterCount() ? method.getParameterTypes()[i] : int.class;
            given[i] = type == boolean.class ? (Object) Boolean.valueOf(told[i])
                    : type == long.class ? (Object) number(told[i]) : (Object) (int) number(told[i]);
        }
        return ((Number) method.invoke(x, given)).longValue();
    }

    private static long number(String told) {
        return told.startsWith("0b") ? Long.parseLong(told.substring(2), 2) : Long.decode(told);
    }

    private static String[] split(String arguments) {
        return arguments.isEmpty() ? new String[0] : arguments.split(", ");
    }

    private static Method method(String name) throws NoSuchMethodException {
        for (Method m : FeltHouse.class.getDeclaredMethods()) {
            if (Modifier.isPublic(m.getModifiers()) && m.getName().equals(name)) {
                return m;
            }
        }
        throw new NoSuchMethodException(name);
    }

    /** Each call of the face has one row, with as many arguments as it takes, and no other has one. */
    private static void calls(List<String> page) throws NoSuchMethodException {
        Set<String> left = new TreeSet<>();
        for (Method m : FeltHouse.class.getDeclaredMethods()) {
            if (Modifier.isPublic(m.getModifiers())) {
                left.add(m.getName());
            }
        }
        for (String line : page) {
            Matcher row = ROW.matcher(line);
            if (row.matches()) {
                Check.holds("README.md: one row for a call: " + line, left.remove(row.group(1)));
                Check.due("README.md: arguments of " + row.group(1), split(row.group(2)).length,
                        method(row.group(1)).getParameterCount());
            }
        }
        Check.holds("README.md: calls without a row: " + left, left.isEmpty());
    }

    private static void findings(List<String> page) {
        int next = 0;
        for (String line : page) {
            Matcher row = FINDING.matcher(line);
            if (row.matches() && next < FINDINGS.length) {
                Check.due("README.md: the answer of " + FINDINGS[next], Long.parseLong(row.group(1)),
                        Check.BEYOND - next);
                Check.holds("README.md: the name of finding " + next, row.group(2).equals(FINDINGS[next]));
                Check.due("README.md: status() of " + FINDINGS[next], Long.parseLong(row.group(3)), next);
                next++;
            }
        }
        Check.due("README.md: rows of findings", next, FINDINGS.length);
    }

    /** The text that the page shows is one, with as many items as it has between its signs. */
    private static void text(List<String> page) {
        Matcher shown = Pattern.compile("A text is items .* such as `([^`]+)`\\.").matcher(String.join("\n", page));
        boolean isShown = shown.find();
        Check.holds("README.md: a text is shown", isShown);
        if (isShown) {
            Check.due("README.md: " + shown.group(1), Check.told(new FeltHouse(), shown.group(1)),
                    shown.group(1).split(",").length);
        }
    }

    private static void tests(List<String> page) throws IOException {
        Set<String> left = new TreeSet<>();
        try (DirectoryStream<Path> files = Files.newDirectoryStream(Path.of("src/test/java"), "*Test.java")) {
            for (Path file : files) {
                left.add(file.getFileName().toString().replace(".java", ""));
            }
        }
        for (String line : page) {
            Matcher row = TEST.matcher(line);
            if (row.matches()) {
                Check.holds("README.md: a row for a test that is there: " + line, left.remove(row.group(1)));
            }
        }
        Check.holds("README.md: tests without a row: " + left, left.isEmpty());
    }
}
