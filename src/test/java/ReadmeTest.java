import java.io.IOException;
import java.lang.reflect.Method;
import java.nio.file.Files;
import java.nio.file.Path;
import java.util.Set;
import java.util.TreeSet;
import java.util.regex.Matcher;
import java.util.regex.Pattern;

/** README.md's example answers what its comments say, and its list of methods is the class's. */
public final class ReadmeTest {
    private static final Path README = Path.of("README.md");
    private static final Pattern MADE = Pattern.compile("TreeRanker ranker = new TreeRanker\\((\\d+)\\);");
    private static final Pattern CALL = Pattern.compile("ranker\\.(\\w+)\\(([^)]*)\\); *// (-?\\d+)(:.*)?");
    private static final Pattern LISTED = Pattern.compile("\\| `(\\w+)\\(([^)]*)\\)` \\|.*");

    public static void main(String[] args) throws IOException, ReflectiveOperationException {
        example();
        listedMethods();
        Check.end();
    }

    private static void example() throws IOException, ReflectiveOperationException {
        TreeRanker ranker = null;
        int calls = 0;
        for (String line : Files.readAllLines(README)) {
            Matcher made = MADE.matcher(line);
            Matcher call = CALL.matcher(line);
            if (made.lookingAt()) {
                ranker = new TreeRanker(Integer.parseInt(made.group(1)));
            } else if (call.matches()) {
                calls++;
                Check.due(line, answer(ranker, call.group(1), call.group(2)), Integer.valueOf(call.group(3)));
            } else {
                Check.due("a call with its answer: " + line, line.startsWith("ranker."), false);
            }
        }
        Check.due("calls in the example", calls > 0, true);
    }

    private static Object answer(TreeRanker ranker, String name, String arguments)
            throws ReflectiveOperationException {
        String[] words = arguments.isEmpty() ? new String[0] : arguments.split(", ");
        Class<?>[] types = new Class<?>[words.length];
        Object[] values = new Object[words.length];
        for (int i = 0; i < words.length; i++) {
            types[i] = int.class;
            values[i] = Integer.valueOf(words[i]);
        }
        return TreeRanker.class.getMethod(name, types).invoke(ranker, values);
    }

    private static void listedMethods() throws IOException {
        Set<String> listed = new TreeSet<>();
        for (String line : Files.readAllLines(README)) {
            Matcher row = LISTED.matcher(line);
            if (row.matches()) {
                int parameters = row.group(2).isEmpty() ? 0 : row.group(2).split(", ").length;
                listed.add(row.group(1) + " of " + parameters);
            }
        }
        Set<String> own = new TreeSet<>(Set.of("TreeRanker of 1"));
        for (Method method : TreeRanker.class.getMethods()) {
            if (method.getDeclaringClass() == TreeRanker.class) {
                own.add(method.getName() + " of " + method.getParameterCount());
            }
        }
        Check.due("methods that README.md lists", listed, own);
    }
}
