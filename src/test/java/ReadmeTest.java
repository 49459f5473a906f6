import java.io.File;
import java.io.IOException;
import java.lang.reflect.InvocationTargetException;
import java.lang.reflect.Method;
import java.lang.reflect.Modifier;
import java.nio.file.Files;
import java.nio.file.Path;
import java.util.HashMap;
import java.util.List;
import java.util.Map;
import java.util.Set;
import java.util.TreeSet;
import java.util.regex.Matcher;
import java.util.regex.Pattern;

/** The calls that README.md shows, with the answers that it gives for them, and the tests that it lists. */
public final class ReadmeTest {
    private static final Path README = Path.of("README.md");
    private static final String BEGIN = "```java";
    private static final String END = "```";
    private static final String NEW = "ShareCoder x = new ShareCoder();";
    private static final Pattern CALL =
            Pattern.compile("x\\.(\\w+)\\(([^)]*)\\);\\s*// (NONE|-?\\d+)(?:: \\S.*)?");
    private static final Pattern LISTED = Pattern.compile("(?m)^- `(\\w+)`:");
    private static final int MOST_CALLS = 512;

    private final Due due = new Due();
    private final Map<String, Method> face = new HashMap<>();
    private final Set<String> shown = new TreeSet<>();
    private int blocks = 0;

    public static void main(String[] args) throws IOException, ReflectiveOperationException {
        ReadmeTest test = new ReadmeTest();
        List<String> lines = Files.readAllLines(README);
        test.takeFace();
        test.calls(lines);
        test.everyMethodIsShown();
        test.tests(String.join("\n", lines));
        test.due.finish("ReadmeTest");
    }

    private void takeFace() {
        for (Method method : ShareCoder.class.getDeclaredMethods()) {
            if (Modifier.isPublic(method.getModifiers())) {
                face.put(method.getName(), method);
            }
        }
    }

    private void calls(List<String> lines) throws ReflectiveOperationException {
        boolean inside = false;
        ShareCoder x = null;
        int calls = 0;
        for (int i = 0; i < lines.size(); i++) {
            String line = lines.get(i).trim();
            due.by("README.md, line " + (i + 1));
            if (!inside) {
                inside = line.equals(BEGIN);
                x = null;
                calls = 0;
            } else if (line.equals(END)) {
                inside = false;
                blocks++;
                due.holds("the block shows a call", calls > 0);
            } else if (line.equals(NEW)) {
                due.holds("a block begins with its only object", x == null && calls == 0);
                x = new ShareCoder();
            } else {
                calls++;
                due.holds("an object is used for at most 512 calls", calls <= MOST_CALLS);
                call(x, line);
            }
        }
        due.by("README.md");
        due.holds("the last block ends", !inside);
        due.holds("there are blocks", blocks > 0);
    }

    private void call(ShareCoder x, String line) throws ReflectiveOperationException {
        Matcher matcher = CALL.matcher(line);
        boolean isCall = x != null && matcher.matches() && face.containsKey(matcher.group(1));
        due.holds(line + " is a call with its answer", isCall);
        if (isCall) {
            shown.add(matcher.group(1));
            int want = matcher.group(3).equals("NONE") ? ShareCoder.NONE : Integer.parseInt(matcher.group(3));
            due.is(line, answer(x, face.get(matcher.group(1)), matcher.group(2)), want);
        }
    }

    private static int answer(ShareCoder x, Method method, String arguments)
            throws IllegalAccessException, InvocationTargetException {
        String[] words = arguments.isEmpty() ? new String[0] : arguments.split(",\\s*");
        Object[] numbers = new Object[words.length];
        for (int i = 0; i < words.length; i++) {
            numbers[i] = number(words[i]);
        }
        return (Integer) method.invoke(x, numbers);
    }

    private static int number(String word) {
        if (word.matches("'.'")) {
            return word.charAt(1);
        }
        return word.startsWith("0x") ? Integer.parseUnsignedInt(word.substring(2), 16) : Integer.parseInt(word);
    }

    private void everyMethodIsShown() {
        due.by("README.md says how to use the class");
        for (String name : face.keySet()) {
            due.holds(name + "() is shown", shown.contains(name));
        }
        due.is("NONE", ShareCoder.NONE, -1);
    }

    private void tests(String text) {
        due.by("README.md says how to run its tests");
        due.holds(".ci/run is named", text.contains("\n    .ci/run\n"));
        due.holds(".ci/run can be run", Files.isExecutable(Path.of(".ci/run")));
        Set<String> listed = new TreeSet<>();
        Matcher matcher = LISTED.matcher(text);
        while (matcher.find()) {
            listed.add(matcher.group(1));
        }
        Set<String> there = new TreeSet<>();
        File[] files = new File("src/test/java").listFiles();
        for (File file : files == null ? new File[0] : files) {
            if (file.getName().endsWith("Test.java")) {
                there.add(file.getName().replace(".java", ""));
            }
        }
        due.holds("the tests listed " + listed + " are those that there are " + there, listed.equals(there));
    }
}
