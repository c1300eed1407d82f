import java.lang.reflect.InvocationTargetException;
import java.lang.reflect.Method;
import java.lang.reflect.Modifier;
import java.util.Arrays;
import java.util.Collections;
import java.util.List;
import java.util.Map;
import java.util.TreeMap;

/** The calls of the face by their names, which are all different. */
final class Calls {
    private static final Map<String, Method> METHODS = methods();
    static final List<String> NAMES = List.copyOf(METHODS.keySet());

    private Calls() {
    }

    private static Map<String, Method> methods() {
        Map<String, Method> methods = new TreeMap<>();
        for (Method method : Thicket.class.getDeclaredMethods()) {
            if (Modifier.isPublic(method.getModifiers())) {
                methods.put(method.getName(), method);
            }
        }
        return Collections.unmodifiableMap(methods);
    }

    /** What each argument stands for. */
    static String[] kindsOf(String name) {
        switch (name) {
            case "addVertex": return new String[] {"value"};
            case "setValue": return new String[] {"vertex", "value"};
            case "addEdge": return new String[] {"vertex", "vertex", "weight"};
            case "setWeight": return new String[] {"edge", "weight"};
            case "addOnPath": return new String[] {"vertex", "vertex", "amount"};
            case "otherEnd": return new String[] {"edge", "vertex"};
            case "neighbour": return new String[] {"vertex", "index"};
            case "pathVertex": case "ancestor": case "ancestorByWalk":
                return new String[] {"vertex", "vertex", "index"};
            case "weight": case "state": case "removeEdge": case "replacement":
            case "replacementAnew":
                return new String[] {"edge"};
            default:
                String[] kinds = new String[METHODS.get(name).getParameterCount()];
                Arrays.fill(kinds, "vertex");
                return kinds;
        }
    }

    /** An answer that is a throw is told as PlainModel tells it. */
    static String answer(Thicket x, String name, int... arguments) {
        Object[] boxed = new Object[arguments.length];
        for (int i = 0; i < boxed.length; i++) {
            boxed[i] = arguments[i];
        }
        try {
            return String.valueOf(METHODS.get(name).invoke(x, boxed));
        } catch (InvocationTargetException e) {
            return "throws " + e.getCause().getClass().getName();
        } catch (IllegalAccessException e) {
            return e.toString();
        }
    }
}
