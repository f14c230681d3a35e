import java.io.IOException;
import java.lang.reflect.Method;
import java.nio.file.Files;
import java.nio.file.Path;
import java.util.TreeSet;
import java.util.regex.Matcher;
import java.util.regex.Pattern;

/** The example in README.md: each call answers the number that stands beside it, and no method is left out. */
public final class ReadmeTest {
    private static final Pattern CALL = Pattern.compile("tree\\.(\\w+)\\(([-\\d, ]*)\\); +// (-?\\d+)\\b.*");

    private static final TreeSet<String> called = new TreeSet<>();

    public static void main(String[] args) throws IOException, ReflectiveOperationException {
        TreeContract tree = new TreeContract();
        for (String line : Files.readAllLines(Path.of("README.md"))) {
            if (line.startsWith("tree.")) {
                check(tree, line);
            }
        }
        Check.due("methods in the example", called, methods());
        Check.finish();
    }

    private static void check(TreeContract tree, String line) throws ReflectiveOperationException {
        Matcher call = CALL.matcher(line);
        boolean readable = call.matches();
        Check.due("can be read: " + line, readable, true);
        if (readable) {
            called.add(call.group(1));
            Check.due(line, answer(tree, call.group(1), call.group(2)), Integer.valueOf(call.group(3)));
        }
    }

    private static Object answer(TreeContract tree, String name, String list) throws ReflectiveOperationException {
        String[] words = list.isEmpty() ? new String[0] : list.split(", ");
        Class<?>[] types = new Class<?>[words.length];
        Object[] numbers = new Object[words.length];
        for (int i = 0; i < words.length; i++) {
            types[i] = int.class;
            numbers[i] = Integer.valueOf(words[i]);
        }
        return TreeContract.class.getMethod(name, types).invoke(tree, numbers);
    }

    private static TreeSet<String> methods() {
        TreeSet<String> names = new TreeSet<>();
        for (Method method : TreeContract.class.getMethods()) {
            if (method.getDeclaringClass() == TreeContract.class) {
                names.add(method.getName());
            }
        }
        return names;
    }
}
