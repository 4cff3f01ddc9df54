import java.lang.reflect.Field;
import java.lang.reflect.Method;
import java.lang.reflect.Modifier;
import java.util.Arrays;
import java.util.Set;
import java.util.TreeSet;

/** The public face of the document, the values of its constants, and no member more. */
public final class FaceTest {
    private static final Set<String> METHODS = new TreeSet<>(Arrays.asList(
            "mount/2", "unmount/1", "mkdir/2", "rmdir/2", "write/3", "grow/3", "remove/2",
            "rename/3", "read/2", "files/1", "directories/1", "commit/1", "drop/0", "layers/0",
            "base/1", "changes/1", "compare/2", "squash/1"));
    private static final Set<String> CONSTANTS = new TreeSet<>(Arrays.asList(
            "BAD_ARG", "FULL", "UNUSED", "NONE"));

    public static void main(String[] args) {
        constants();
        theClass();
        methods();
        fields();
        Due.end();
    }

    private static void constants() {
        Due.due(LayerMounts.BAD_ARG, -1);
        Due.due(LayerMounts.FULL, -2);
        Due.due(LayerMounts.UNUSED, -3);
        Due.due(LayerMounts.NONE, -4);
    }

    private static void theClass() {
        Class<?> face = LayerMounts.class;
        demand(face.getModifiers() == (Modifier.PUBLIC | Modifier.FINAL), "the class is not public final");
        demand(face.getDeclaredConstructors().length == 1, "there is more than one constructor");
        demand(face.getConstructors().length == 1, "the constructor is not public");
        demand(face.getConstructors()[0].getParameterCount() == 0, "the constructor takes arguments");
        demand(face.getDeclaredClasses().length == 0, "there is a nested class");
        demand(face.getInterfaces().length == 0, "an interface is implemented");
        demand(face.getSuperclass() == Object.class, "a class is extended");
    }

    private static void methods() {
        Set<String> found = new TreeSet<>();
        Set<String> publicNames = new TreeSet<>();
        for (String method : METHODS) {
            publicNames.add(method.substring(0, method.indexOf('/')));
        }
        for (Method method : LayerMounts.class.getDeclaredMethods()) {
            if (Modifier.isPrivate(method.getModifiers())) {
                demand(!publicNames.contains(method.getName()), method + " bears a public name");
                continue;
            }
            found.add(method.getName() + "/" + method.getParameterCount());
            demand(method.getModifiers() == Modifier.PUBLIC, method + " is not plainly public");
            demand(method.getReturnType() == int.class, method + " does not answer an int");
            for (Class<?> type : method.getParameterTypes()) {
                demand(type == int.class, method + " takes something else than ints");
            }
        }
        demand(found.equals(METHODS), "the public methods are " + found);
    }

    private static void fields() {
        Set<String> found = new TreeSet<>();
        for (Field field : LayerMounts.class.getDeclaredFields()) {
            if (Modifier.isStatic(field.getModifiers())) {
                demand(Modifier.isFinal(field.getModifiers()), field + " is no constant");
                demand(field.getType() == int.class || field.getType() == long.class,
                        field + " is no number");
            }
            if (!Modifier.isPrivate(field.getModifiers())) {
                found.add(field.getName());
                demand(Modifier.isPublic(field.getModifiers()), field + " is neither public nor private");
                demand(Modifier.isStatic(field.getModifiers()), field + " is no constant");
            }
        }
        demand(found.equals(CONSTANTS), "the public constants are " + found);
    }

    private static void demand(boolean holds, String fault) {
        if (!holds) {
            Due.tell(fault);
        }
    }
}
