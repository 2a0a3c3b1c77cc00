import java.io.IOException;
import java.lang.reflect.Method;
import java.nio.file.Files;
import java.nio.file.Path;
import java.util.Set;
import java.util.TreeSet;
import java.util.regex.Matcher;
import java.util.regex.Pattern;

/** The example in README.md: each call answers what is written after it. Runs in the project's directory. */
public final class ReadmeTest {
    private static final Pattern CALL = Pattern.compile("x\\.(\\w+)\\(([-0-9, ]*)\\); *// (true|false|-?\\d+)(:.*)?");

    public static void main(String[] args) throws IOException, ReflectiveOperationException {
        Due due = new Due();
        ManagedRuntime x = new ManagedRuntime();
        Set<String> called = new TreeSet<>();
        for (String line : Files.readAllLines(Path.of("README.md"))) {
            if (line.startsWith("x.")) {
                Matcher call = CALL.matcher(line);
                if (!call.matches()) {
                    throw new IllegalStateException("no call with its answer: " + line);
                }
                due.is(line, ask(x, call.group(1), call.group(2)), answer(call.group(3)));
                called.add(call.group(1));
            }
        }
        due.yes("the example has calls of " + called, called.size() >= 10);
        due.end();
    }

    private static long ask(ManagedRuntime x, String name, String list) throws ReflectiveOperationException {
        String[] words = list.isEmpty() ? new String[0] : list.split(", ");
        Class<?>[] types = new Class<?>[words.length];
        Object[] numbers = new Object[words.length];
        for (int i = 0; i < words.length; i++) {
            types[i] = int.class;
            numbers[i] = Integer.valueOf(words[i]);
        }
        Method method = ManagedRuntime.class.getMethod(name, types);
        return answer(method.invoke(x, numbers).toString());
    }

    private static long answer(String word) {
        if (word.equals("true") || word.equals("false")) {
            return word.equals("true") ? 1 : 0;
        }
        return Long.parseLong(word);
    }
}
