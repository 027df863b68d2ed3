import java.lang.reflect.Constructor;
import java.lang.reflect.Field;
import java.lang.reflect.Method;
import java.lang.reflect.Modifier;
import java.util.Set;
import java.util.TreeSet;

/** The document's public face, and what LANGUAGE.md's rules 1, 2 and 5 say of members. */
public final class FaceTest {
    private static final Set<String> FACE = Set.of(
            "int draw(int, int, int)", "int cut(int)", "int trees()", "int treesWith(int)",
            "int treesWithBoth(int, int)", "int tree(int)", "int mark(int)", "int rank()", "int below()",
            "int extensions()", "int surplus()");

    public static void main(String[] args) {
        classAndConstructor();
        methods();
        fields();
        Check.end();
    }

    private static void classAndConstructor() {
        Check.due("class modifiers", TreeRanker.class.getModifiers(), Modifier.PUBLIC | Modifier.FINAL);
        Check.due("nested classes", TreeRanker.class.getDeclaredClasses().length, 0);
        Constructor<?>[] made = TreeRanker.class.getDeclaredConstructors();
        Check.due("constructors", made.length, 1);
        Check.due("constructor", made[0].toString(), "public TreeRanker(int)");
    }

    private static void methods() {
        Set<String> open = new TreeSet<>();
        Set<String> openNames = new TreeSet<>();
        for (Method method : TreeRanker.class.getDeclaredMethods()) {
            if (!Modifier.isPrivate(method.getModifiers())) {
                Check.due(method + " modifiers", method.getModifiers(), Modifier.PUBLIC);
                open.add(signature(method));
                openNames.add(method.getName());
            }
        }
        Check.due("public methods", open, FACE);
        for (Method method : TreeRanker.class.getDeclaredMethods()) {
            if (Modifier.isPrivate(method.getModifiers())) {
                Check.due(method + " bears a public name", openNames.contains(method.getName()), false);
            }
            Check.due(method + " has seven parameters at most", method.getParameterCount() <= 7, true);
        }
    }

    private static String signature(Method method) {
        StringBuilder types = new StringBuilder();
        for (Class<?> type : method.getParameterTypes()) {
            types.append(types.length() == 0 ? "" : ", ").append(type);
        }
        return method.getReturnType() + " " + method.getName() + "(" + types + ")";
    }

    private static void fields() {
        for (Field field : TreeRanker.class.getDeclaredFields()) {
            int modifiers = field.getModifiers();
            Class<?> type = field.getType();
            Class<?> plain = type.isArray() ? type.getComponentType() : type;
            Check.due(field + " is private", Modifier.isPrivate(modifiers), true);
            Check.due(field + " holds numbers", plain.isPrimitive(), true);
            Check.due(field + " is final if it is an array", !type.isArray() || Modifier.isFinal(modifiers), true);
            Check.due(field + " is a constant if it is static",
                    !Modifier.isStatic(modifiers) || Modifier.isFinal(modifiers) && !type.isArray(), true);
        }
    }
}
