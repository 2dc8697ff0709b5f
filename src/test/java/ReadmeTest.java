import java.io.IOException;
import java.io.UncheckedIOException;
import java.lang.reflect.Method;
import java.nio.file.Files;
import java.nio.file.Path;
import java.util.HashSet;
import java.util.Set;
import java.util.regex.Matcher;
import java.util.regex.Pattern;

/** Makes the calls that README.md shows, in their order: an example that is wrong misleads. */
public final class ReadmeTest {
    // As in "t.give(0, 0, 1, true);   // true: why".
    private static final Pattern SHOWN = Pattern.compile("t\\.(\\w+)\\((.*)\\); *// ([-\\w]+)(:.*)?");

    public static void main(String[] args) {
        Check.test("the calls of README.md answer what stands behind them", ReadmeTest::shownCalls);
        Check.finish();
    }

    private static void shownCalls() {
        TabledRules t = new TabledRules();
        Set<String> shown = new HashSet<>();
        for (String line : readme().split("\n")) {
            if (line.startsWith("t.")) {
                shown.add(compare(line, t));
            }
        }
        for (Method method : TabledRules.class.getDeclaredMethods()) {
            if (method.toString().startsWith("public")) {
                Check.isTrue(method.getName() + " is shown", shown.contains(method.getName()));
            }
        }
    }

    /** The name of the method that is called. */
    private static String compare(String line, TabledRules t) {
        Matcher parts = SHOWN.matcher(line);
        Check.isTrue("can be read: " + line, parts.matches());
        String name = parts.group(1);
        String[] words = parts.group(2).isEmpty() ? new String[0] : parts.group(2).split(", ");
        Check.same(line, answer(t, name, words), parts.group(3));
        return name;
    }

    private static String answer(TabledRules t, String name, String[] words) {
        Object[] arguments = new Object[words.length];
        Class<?>[] types = new Class<?>[words.length];
        for (int i = 0; i < words.length; i++) {
            boolean isTruth = words[i].equals("true") || words[i].equals("false");
            arguments[i] = isTruth ? (Object) Boolean.valueOf(words[i]) : (Object) Integer.valueOf(words[i]);
            types[i] = isTruth ? boolean.class : int.class;
        }
        try {
            return String.valueOf(TabledRules.class.getMethod(name, types).invoke(t, arguments));
        } catch (ReflectiveOperationException noSuchCall) {
            return noSuchCall.toString();
        }
    }

    private static String readme() {
        try {
            return Files.readString(Path.of("README.md"));
        } catch (IOException unreadable) {
            throw new UncheckedIOException(unreadable);
        }
    }
}
