import java.lang.reflect.Constructor;
import java.lang.reflect.Field;
import java.lang.reflect.Method;
import java.lang.reflect.Modifier;
import java.util.Arrays;
import java.util.HashMap;
import java.util.Map;
import java.util.Set;

/** The public face of the document, and nothing beside it. */
public final class FaceTest {
    private static final Checker check = new Checker();
    private static final String[] METHODS = {
        "type 1", "clear 0", "page 0", "node 2", "rule 2", "toggles 2", "tags 2", "switches 1", "undo 0",
        "value 2", "winner 3", "source 2", "change 3", "wanted 3", "sees 3", "forget 0", "unseen 0", "ask 0",
        "keep 1", "back 1", "count 1"
    };

    public static void main(String[] args) throws Exception {
        check.due("public final", Modifier.PUBLIC | Modifier.FINAL, StyleTree.class.getModifiers());
        methods();
        constants();
        constructors();
        for (Class<?> inside : StyleTree.class.getDeclaredClasses()) {
            int modifiers = inside.getModifiers();
            check.due(inside + " is static", 1, Modifier.isStatic(modifiers) ? 1 : 0);
            check.due(inside + " is hidden", 0, modifiers & (Modifier.PUBLIC | Modifier.PROTECTED));
        }
        check.end();
    }

    /** The document's methods, each with how many numbers it takes. */
    private static Map<String, Integer> face() {
        Map<String, Integer> face = new HashMap<>();
        for (String method : METHODS) {
            String[] parts = method.split(" ");
            face.put(parts[0], Integer.valueOf(parts[1]));
        }
        return face;
    }

    static Set<String> names() {
        return face().keySet();
    }

    private static void methods() {
        Map<String, Integer> face = face();
        int found = 0;
        for (Method method : StyleTree.class.getDeclaredMethods()) {
            Integer parameters = face.get(method.getName());
            if (parameters == null) {
                check.due(method + " is private", 1, Modifier.isPrivate(method.getModifiers()) ? 1 : 0);
                continue;
            }
            found++;
            check.due(method + " is public", Modifier.PUBLIC, method.getModifiers());
            check.due(method + " has its parameters", parameters, method.getParameterCount());
            check.due(method + " answers int", 1, method.getReturnType() == int.class ? 1 : 0);
            boolean ints = Arrays.stream(method.getParameterTypes()).allMatch(t -> t == int.class);
            check.due(method + " takes int", 1, ints ? 1 : 0);
        }
        check.due("methods of the face", METHODS.length, found);
    }

    private static void constants() throws Exception {
        Map<String, Integer> face = Map.of("BAD", -2, "STATE", -3, "FULL", -4, "NONE", -9);
        int found = 0;
        for (Field field : StyleTree.class.getDeclaredFields()) {
            Integer value = face.get(field.getName());
            if (value == null) {
                check.due(field + " is private", 1, Modifier.isPrivate(field.getModifiers()) ? 1 : 0);
                continue;
            }
            found++;
            check.due(field.getName(), value, field.getInt(null));
            int all = Modifier.PUBLIC | Modifier.STATIC | Modifier.FINAL;
            check.due(field + " is a public constant", all, field.getModifiers());
        }
        check.due("constants of the face", face.size(), found);
    }

    private static void constructors() {
        Constructor<?>[] all = StyleTree.class.getDeclaredConstructors();
        check.due("constructors", 1, all.length);
        check.due("its parameters", 0, all[0].getParameterCount());
        check.due("it is public", Modifier.PUBLIC, all[0].getModifiers());
    }
}
