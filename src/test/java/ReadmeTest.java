import java.io.IOException;
import java.lang.reflect.Method;
import java.lang.reflect.Modifier;
import java.nio.file.Files;
import java.nio.file.Path;
import java.util.Arrays;
import java.util.HashMap;
import java.util.HashSet;
import java.util.List;
import java.util.Map;
import java.util.Set;
import java.util.regex.Matcher;
import java.util.regex.Pattern;

/** The examples of README.md answer what their comments say, and leave no method out. */
public final class ReadmeTest {
    private static final Pattern MAKES =
        Pattern.compile("LockLevelTypes (\\w+) = new LockLevelTypes\\((.*)\\); +// .*");
    private static final Pattern CALLS = Pattern.compile("(\\w+)\\.(\\w+)\\((.*)\\); +// ([^ :]+)(: .+)?");

    private static final Due due = new Due();
    private static final Map<String, LockLevelTypes> objects = new HashMap<>();
    private static final Set<String> called = new HashSet<>();

    public static void main(String[] args) throws IOException, ReflectiveOperationException {
        boolean inExample = false;
        for (String line : Files.readAllLines(Path.of("README.md"))) {
            if (line.startsWith("```")) {
                inExample = line.equals("```java");
            } else if (inExample) {
                follow(line);
            }
        }
        for (Method method : LockLevelTypes.class.getDeclaredMethods()) {
            if (Modifier.isPublic(method.getModifiers())) {
                due.yes("an example for " + method.getName(), called.contains(method.getName()));
            }
        }
        due.end();
    }

    private static void follow(String line) throws ReflectiveOperationException {
        Matcher makes = MAKES.matcher(line);
        Matcher calls = CALLS.matcher(line);
        if (makes.matches()) {
            Object[] numbers = numbers(makes.group(2));
            objects.put(makes.group(1), new LockLevelTypes((int) numbers[0], (int) numbers[1]));
        } else if (calls.matches()) {
            String got = call(objects.get(calls.group(1)), calls.group(2), numbers(calls.group(3)));
            due.same(line, got, answer(calls.group(4)));
        } else {
            due.same("lines of an example that cannot be read: " + line, 1, 0);
        }
    }

    private static String call(LockLevelTypes x, String name, Object[] numbers) throws ReflectiveOperationException {
        called.add(name);
        Class<?>[] types = new Class<?>[numbers.length];
        Arrays.fill(types, int.class);
        return String.valueOf(LockLevelTypes.class.getMethod(name, types).invoke(x, numbers));
    }

    private static Object[] numbers(String text) throws ReflectiveOperationException {
        List<String> words = text.isEmpty() ? List.of() : List.of(text.split(", "));
        Object[] numbers = new Object[words.size()];
        for (int i = 0; i < numbers.length; i++) {
            numbers[i] = number(words.get(i));
        }
        return numbers;
    }

    private static int number(String word) throws ReflectiveOperationException {
        if (word.startsWith("LockLevelTypes.")) {
            return constant(word.substring("LockLevelTypes.".length()));
        }
        return word.startsWith("0b") ? Integer.parseUnsignedInt(word.substring(2), 2) : Integer.parseInt(word);
    }

    private static String answer(String word) throws ReflectiveOperationException {
        return word.matches("[A-Z_]+") ? String.valueOf(constant(word)) : word;
    }

    private static int constant(String name) throws ReflectiveOperationException {
        return LockLevelTypes.class.getField(name).getInt(null);
    }
}
