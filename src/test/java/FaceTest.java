import java.io.IOException;
import java.lang.reflect.Constructor;
import java.lang.reflect.Field;
import java.lang.reflect.Method;
import java.lang.reflect.Modifier;
import java.nio.file.Files;
import java.nio.file.Path;
import java.util.Set;
import java.util.TreeSet;
import java.util.regex.Pattern;

/** The document's public face, and those rules of LANGUAGE.md that can be seen from outside or by a word. */
public final class FaceTest {
    private static final Set<String> FACE = Set.of(
            "int draw(int, int, int)", "int cut(int)", "int trees()", "int treesWith(int)",
            "int treesWithBoth(int, int)", "int tree(int)", "int mark(int)", "int rank()", "int below()",
            "int extensions()", "int surplus()");
    private static final String[] WORDS_LEFT_OUT = {
        "import", "package", "throw", "throws", "try", "catch", "synchronized", "assert", "instanceof", "null",
        "float", "double", "String", "Math", "Integer", "System", "Arrays", "Object", "interface", "enum",
        "record", "->", "::", "var"};

    public static void main(String[] args) throws IOException {
        classAndConstructor();
        methods();
        fields();
        arrays();
        words();
        Check.end();
    }

    private static void classAndConstructor() {
        Check.due("class modifiers", TreeRanker.class.getModifiers(), Modifier.PUBLIC | Modifier.FINAL);
        Check.due("nested classes", TreeRanker.class.getDeclaredClasses().length, 0);
        Constructor<?>[] made = TreeRanker.class.getDeclaredConstructors();
        Check.due("constructors", made.length, 1);
        Check.due("constructor", made[0].toString(), "public TreeRanker(int)");
    }

    private static void methods() {
        Set<String> open = new TreeSet<>();
        Set<String> openNames = new TreeSet<>();
        for (Method method : TreeRanker.class.getDeclaredMethods()) {
            if (!Modifier.isPrivate(method.getModifiers())) {
                Check.due(method + " modifiers", method.getModifiers(), Modifier.PUBLIC);
                open.add(signature(method));
                openNames.add(method.getName());
            }
        }
        Check.due("public methods", open, FACE);
        for (Method method : TreeRanker.class.getDeclaredMethods()) {
            if (Modifier.isPrivate(method.getModifiers())) {
                Check.due(method + " bears a public name", openNames.contains(method.getName()), false);
            }
            Check.due(method + " has seven parameters at most", method.getParameterCount() <= 7, true);
        }
    }

    private static String signature(Method method) {
        StringBuilder types = new StringBuilder();
        for (Class<?> type : method.getParameterTypes()) {
            types.append(types.length() == 0 ? "" : ", ").append(type);
        }
        return method.getReturnType() + " " + method.getName() + "(" + types + ")";
    }

    private static void fields() {
        for (Field field : TreeRanker.class.getDeclaredFields()) {
            int modifiers = field.getModifiers();
            Class<?> type = field.getType();
            Class<?> plain = type.isArray() ? type.getComponentType() : type;
            Check.due(field + " is private", Modifier.isPrivate(modifiers), true);
            Check.due(field + " holds numbers", plain.isPrimitive(), true);
            Check.due(field + " is final if it is an array", !type.isArray() || Modifier.isFinal(modifiers), true);
            Check.due(field + " is a constant if it is static",
                    !Modifier.isStatic(modifiers) || Modifier.isFinal(modifiers) && !type.isArray(), true);
        }
    }

    private static String code() throws IOException {
        String source = Files.readString(Path.of("src/main/java/TreeRanker.java"));
        return source.replaceAll("(?s)/\\*.*?\\*/", " ").replaceAll("//[^\n]*", " ");
    }

    private static void arrays() throws IOException {
        Pattern made = Pattern.compile(" *private final int\\[\\] \\w+ = new int\\[([A-Z_]+|[1-9][0-9]*)\\];");
        for (String line : code().split("\n")) {
            if (Pattern.compile("\\bnew\\b").matcher(line).find()) {
                Check.due("array made as a field:" + line, made.matcher(line).matches(), true);
            }
        }
    }

    private static void words() throws IOException {
        String code = code();
        for (String word : WORDS_LEFT_OUT) {
            String edge = Character.isLetter(word.charAt(0)) ? "\\b" : "";
            boolean used = Pattern.compile(edge + Pattern.quote(word) + edge).matcher(code).find();
            Check.due("use of " + word, used, false);
        }
    }
}
