import java.io.IOException;
import java.lang.reflect.Method;
import java.lang.reflect.Modifier;
import java.nio.file.DirectoryStream;
import java.nio.file.Files;
import java.nio.file.Path;
import java.util.Set;
import java.util.TreeSet;
import java.util.regex.Matcher;
import java.util.regex.Pattern;

/**
 * README.md: each call of its example answers what stands behind it, each method of the class is
 * named, and it names the tests that there are and no others.
 */
public final class ReadmeTest {
    /** A call, its arguments, its answer, and the constant's name where the answer is one. */
    private static final Pattern CALL = Pattern.compile("lane\\.(\\w+)\\(([^)]*)\\); +// (-?\\d+)\\b(?: ([A-Z]+)\\b)?.*");
    private static final String MAKING = "LoopLane lane = new LoopLane();";

    public static void main(String[] args) throws IOException, ReflectiveOperationException {
        Path root = Path.of(args[0]);
        String text = Files.readString(root.resolve("README.md"));
        theExample(text);
        theMethodsAreNamed(text);
        theTestsAreNamed(text, testsUnder(root.resolve("src/test/java")));
        Due.finish("ReadmeTest");
    }

    private static void theExample(String text) throws ReflectiveOperationException {
        LoopLane lane = new LoopLane();
        int calls = 0;
        for (String line : text.split("```java\n", 2)[1].split("```", 2)[0].split("\n")) {
            Matcher call = CALL.matcher(line);
            if (call.matches()) {
                calls++;
                answerIsDue(lane, line, call);
            } else {
                Due.holds("README has a call and its answer in: " + line, line.isEmpty() || line.equals(MAKING));
            }
        }
        Due.holds("the example has calls", calls > 0 && calls <= 512);
    }

    private static void answerIsDue(LoopLane lane, String line, Matcher call) throws ReflectiveOperationException {
        String[] words = call.group(2).isEmpty() ? new String[0] : call.group(2).split(", ");
        Method method = methodOf(call.group(1));
        Class<?>[] types = method == null ? new Class<?>[0] : method.getParameterTypes();
        if (method == null || types.length != words.length) {
            Due.holds("there is such a call: " + line, false);
            return;
        }
        Object[] arguments = new Object[words.length];
        for (int i = 0; i < words.length; i++) {
            arguments[i] = argument(types[i], words[i]);
        }
        long want = Long.parseLong(call.group(3));
        Due.due("README: " + line, ((Number) method.invoke(lane, arguments)).longValue(), want);
        if (call.group(4) != null) {
            Due.due("README: " + call.group(4), LoopLane.class.getField(call.group(4)).getInt(null), want);
        }
    }

    private static Method methodOf(String name) {
        for (Method method : LoopLane.class.getDeclaredMethods()) {
            if (method.getName().equals(name) && Modifier.isPublic(method.getModifiers())) {
                return method;
            }
        }
        return null;
    }

    private static Object argument(Class<?> type, String word) throws ReflectiveOperationException {
        if (word.startsWith("LoopLane.")) {
            return LoopLane.class.getField(word.substring("LoopLane.".length())).get(null);
        }
        if (type == boolean.class) {
            return word.equals("true");
        }
        return type == long.class ? (Object) Long.valueOf(word) : (Object) Integer.valueOf(word);
    }

    private static void theMethodsAreNamed(String text) {
        for (Method method : LoopLane.class.getDeclaredMethods()) {
            if (Modifier.isPublic(method.getModifiers())) {
                Due.holds("README names " + method.getName(), text.contains("`" + method.getName() + "("));
            }
        }
    }

    private static Set<String> testsUnder(Path folder) throws IOException {
        Set<String> names = new TreeSet<>();
        try (DirectoryStream<Path> files = Files.newDirectoryStream(folder, "*Test.java")) {
            files.forEach(file -> names.add(file.getFileName().toString().replace(".java", "")));
        }
        return names;
    }

    private static void theTestsAreNamed(String text, Set<String> tests) {
        Set<String> named = new TreeSet<>();
        Matcher name = Pattern.compile("\\b[A-Z]\\w*Test\\b").matcher(text);
        while (name.find()) {
            named.add(name.group());
        }
        Due.same("the tests that README names", named.toString(), tests.toString());
    }
}
