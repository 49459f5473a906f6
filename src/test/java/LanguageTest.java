import java.io.IOException;
import java.lang.reflect.Constructor;
import java.lang.reflect.Field;
import java.lang.reflect.Method;
import java.lang.reflect.Modifier;
import java.nio.file.Files;
import java.nio.file.Path;
import java.util.Arrays;
import java.util.HashSet;
import java.util.List;
import java.util.Set;
import java.util.TreeSet;
import java.util.regex.Matcher;
import java.util.regex.Pattern;

/** The rules of LANGUAGE.md that a program can look at: the face, the words and the library. */
public final class LanguageTest {
    private static final Set<String> FACE = new TreeSet<>(List.of(
            "feed/5", "end/1", "learn/2", "log/1", "share/2", "start/2", "place/3", "rank/3", "pack/3",
            "unpack/1", "fault/1", "written/1", "take/0", "ideal/1", "code/5", "gone/1", "symbol/4",
            "left/4", "look/1"));
    private static final int MOST_LINES = 60;

    private final Due due = new Due();

    public static void main(String[] args) throws IOException {
        LanguageTest test = new LanguageTest();
        test.face();
        test.classesInside();
        test.words();
        test.due.finish("LanguageTest");
    }

    private void face() {
        due.holds("the class is public and final",
                ShareCoder.class.getModifiers() == (Modifier.PUBLIC | Modifier.FINAL));
        Set<String> seen = new TreeSet<>();
        Set<String> names = new HashSet<>();
        for (Method method : ShareCoder.class.getDeclaredMethods()) {
            if (!Modifier.isPrivate(method.getModifiers())) {
                seen.add(method.getName() + "/" + method.getParameterCount());
                names.add(method.getName());
                due.holds(method + " is public and gives an int",
                        method.getModifiers() == Modifier.PUBLIC && method.getReturnType() == int.class);
            }
        }
        due.holds("the methods are those of the document: " + seen, seen.equals(FACE));
        Constructor<?>[] constructors = ShareCoder.class.getDeclaredConstructors();
        due.is("constructors", constructors.length, 1);
        due.is("constructor's arguments", constructors[0].getParameterCount(), 0);
        due.is("constructor's modifiers", constructors[0].getModifiers(), Modifier.PUBLIC);
        for (Field field : ShareCoder.class.getDeclaredFields()) {
            due.holds(field + " is private or NONE",
                    Modifier.isPrivate(field.getModifiers()) || field.getName().equals("NONE"));
        }
        for (Class<?> inside : ShareCoder.class.getDeclaredClasses()) {
            for (Method method : inside.getDeclaredMethods()) {
                due.holds(method + " has a name of its own", !names.contains(method.getName()));
            }
        }
    }

    private void classesInside() {
        Class<?>[] classes = ShareCoder.class.getDeclaredClasses();
        due.holds("at most twelve classes", classes.length < 12);
        for (Class<?> inside : classes) {
            due.holds(inside + " is static", Modifier.isStatic(inside.getModifiers()));
            staticFieldsAreFinal(inside);
        }
        staticFieldsAreFinal(ShareCoder.class);
    }

    private void staticFieldsAreFinal(Class<?> type) {
        int own = 0;
        for (Field field : type.getDeclaredFields()) {
            if (Modifier.isStatic(field.getModifiers())) {
                due.holds(field + " is final", Modifier.isFinal(field.getModifiers()));
            } else {
                own++;
            }
        }
        due.holds(type + " has at most twenty fields", own <= 20);
        for (Method method : type.getDeclaredMethods()) {
            due.holds(method + " takes at most seven", method.getParameterCount() <= 7);
        }
    }

    private void words() throws IOException {
        String source = Files.readString(Path.of("src/main/java/ShareCoder.java"));
        String code = source.replaceAll("(?s)/\\*.*?\\*/", "").replaceAll("//[^\n]*", "");
        for (String word : List.of("throw", "throws", "try", "catch", "finally", "synchronized", "assert",
                "package", "protected", "equals", "hashCode", "toString",
                "System\\.out", "System\\.nano\\w*", "Random", "Thread", "->", "::", "\\w+Exact")) {
            Matcher found = Pattern.compile("(?<!\\w)" + word + "(?!\\w)").matcher(code);
            due.holds("no " + word, !found.find());
        }
        Matcher imports = Pattern.compile("import\\s+([\\w.]+);").matcher(code);
        while (imports.find()) {
            due.holds("import " + imports.group(1), imports.group(1).equals("java.util.Arrays"));
        }
        Set<String> library = new TreeSet<>();
        Matcher calls = Pattern.compile("\\b(Arrays|Math|Integer|Long|System)\\.(\\w+)").matcher(code);
        while (calls.find()) {
            library.add(calls.group());
        }
        Set<String> allowed = new HashSet<>(List.of("Arrays.fill", "Math.max", "Math.min", "System.arraycopy",
                "Integer.numberOfLeadingZeros"));
        due.holds("the library's calls: " + library, allowed.containsAll(library));
        due.holds("texts hold characters 0 to 255", source.chars().allMatch(c -> c < 256));
        methodsAreShort(code);
    }

    private void methodsAreShort(String code) {
        // Methods of the class stand four deep, those of the classes inside eight deep.
        Pattern method = Pattern.compile("(?m)^( {4}| {8})(?! )[\\w\\[\\] ]*\\w+\\([^)]*\\) \\{$(?s)(.*?)^\\1\\}$");
        Matcher found = method.matcher(code);
        int methods = 0;
        while (found.find()) {
            methods++;
            long lines = Arrays.stream(found.group().split("\n")).count();
            due.holds(found.group().trim().split("\n")[0] + " is short", lines <= MOST_LINES);
        }
        due.holds("methods were found", methods > 40);
    }
}
