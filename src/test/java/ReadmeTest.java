import java.io.IOException;
import java.lang.reflect.InvocationTargetException;
import java.lang.reflect.Method;
import java.lang.reflect.Modifier;
import java.nio.file.DirectoryStream;
import java.nio.file.Files;
import java.nio.file.Path;
import java.util.HashMap;
import java.util.Map;
import java.util.Set;
import java.util.TreeSet;
import java.util.regex.Matcher;
import java.util.regex.Pattern;

/**
 * README.md holds: each call that it shows answers what stands behind it, each call of the face is shown, and the tests
 * that it tells of are all the project's. To be run from the project's directory, as .ci/run does.
 */
public final class ReadmeTest {
    private static final Path README = Path.of("README.md");
    private static final Path TESTS = Path.of("src", "test", "java");
    private static final int CALLS = 512;

    private static final Pattern MADE = Pattern.compile("PlaneNet (\\w+) = new PlaneNet\\((-?\\d+)\\);");
    private static final Pattern CALL = Pattern.compile("(\\w+)\\.(\\w+)\\(([-\\d, ]*)\\); +// (throws \\w+|NONE\\b|-?\\d+\\b).*");
    private static final Pattern TEST = Pattern.compile("- `(\\w+Test)`: .*");

    private static final Map<String, PlaneNet> OBJECTS = new HashMap<>();
    private static final Map<String, Integer> CALLS_OF = new HashMap<>();
    private static final Set<String> SHOWN = new TreeSet<>();
    private static int wrong = 0;

    public static void main(String[] args) throws IOException, ReflectiveOperationException {
        String[] lines = Files.readString(README).split("\n");
        runBlocks(lines);
        allCallsAreShown();
        allTestsAreTold(lines);
        if (wrong > 0) {
            System.exit(1);
        }
        System.out.println("README.md holds");
    }

    private static void isWrong(String words) {
        wrong++;
        System.out.println(words);
    }

    // ---- the use

    private static void runBlocks(String[] lines) throws ReflectiveOperationException {
        boolean inside = false;
        for (String line : lines) {
            if (line.startsWith("```")) {
                inside = line.equals("```java");
            } else if (inside) {
                runLine(line);
            }
        }
    }

    private static void runLine(String line) throws ReflectiveOperationException {
        Matcher made = MADE.matcher(line);
        Matcher call = CALL.matcher(line);
        if (made.matches()) {
            OBJECTS.put(made.group(1), new PlaneNet(Integer.parseInt(made.group(2))));
            CALLS_OF.put(made.group(1), 0);
        } else if (call.matches() && OBJECTS.containsKey(call.group(1))) {
            String answer = answer(OBJECTS.get(call.group(1)), call.group(2), call.group(3));
            String want = call.group(4).equals("NONE") ? "" + PlaneNet.NONE : call.group(4);
            if (!answer.equals(want)) {
                isWrong("README.md: " + line + " answered " + answer);
            }
            if (CALLS_OF.merge(call.group(1), 1, Integer::sum) > CALLS) {
                isWrong("README.md: more calls than an object is used for: " + line);
            }
        } else {
            isWrong("README.md: no call and its answer: " + line);
        }
    }

    private static String answer(PlaneNet net, String name, String numbers) throws ReflectiveOperationException {
        String[] words = numbers.isEmpty() ? new String[0] : numbers.split(", *");
        Class<?>[] types = new Class<?>[words.length];
        Object[] values = new Object[words.length];
        for (int i = 0; i < words.length; i++) {
            types[i] = int.class;
            values[i] = Integer.valueOf(words[i]);
        }
        Method method = PlaneNet.class.getMethod(name, types);
        SHOWN.add(name);
        try {
            return "" + method.invoke(net, values);
        } catch (InvocationTargetException e) {
            return "throws " + e.getCause().getClass().getSimpleName();
        }
    }

    private static void allCallsAreShown() {
        for (Method one : PlaneNet.class.getDeclaredMethods()) {
            if (Modifier.isPublic(one.getModifiers()) && !SHOWN.contains(one.getName())) {
                isWrong("README.md does not show " + one.getName());
            }
        }
    }

    // ---- the tests

    private static void allTestsAreTold(String[] lines) throws IOException {
        Set<String> told = new TreeSet<>();
        for (String line : lines) {
            Matcher test = TEST.matcher(line);
            if (test.matches()) {
                told.add(test.group(1));
            }
        }
        Set<String> tests = ownTests();
        if (!told.equals(tests)) {
            isWrong("README.md tells of the tests " + told + ", there are " + tests);
        }
    }

    private static Set<String> ownTests() throws IOException {
        Set<String> all = new TreeSet<>();
        try (DirectoryStream<Path> files = Files.newDirectoryStream(TESTS, "*.java")) {
            for (Path file : files) {
                all.add(file.getFileName().toString().replace(".java", ""));
            }
        }
        return all;
    }
}
