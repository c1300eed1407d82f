import java.lang.reflect.InvocationTargetException;
import java.lang.reflect.Method;
import java.lang.reflect.Modifier;
import java.util.ArrayList;
import java.util.Arrays;
import java.util.Comparator;
import java.util.List;

/**
 * Runs of 512 calls on fresh objects, each answer compared with the plain model's. The calls come
 * from a fixed sequence of numbers, so that every run of the tests makes the same calls.
 */
public final class ModelTests {
    private static final int RUNS = 240;
    private static final int CALLS = 512;
    private static final int[] EXTREMES = {
        Integer.MIN_VALUE, Integer.MIN_VALUE + 1, -100, -99, -10, -9, -1, 0, 9, 10, 19, 20, 21,
        59, 60, 61, 99, 100, Integer.MAX_VALUE - 1, Integer.MAX_VALUE};

    private static long seed = 20260731;

    private final Thicket thicket = new Thicket();
    private final PlainModel model = new PlainModel();
    private final List<Method> methods;
    private final int run;
    private final int vertexLimit;
    private final int weightLimit;
    private final int wrongIn100;
    private final int changesIn100;

    private ModelTests(int run, List<Method> methods) {
        this.run = run;
        this.methods = methods;
        vertexLimit = new int[] {20, 8, 14, 4, 20, 20}[run % 6];
        weightLimit = new int[] {99, 3, 10, 1, 2}[run % 5];
        wrongIn100 = new int[] {2, 10, 0, 30}[run % 4];
        changesIn100 = new int[] {50, 20, 80}[run % 3];
    }

    public static void main(String[] args) {
        List<Method> methods = new ArrayList<>();
        for (Method method : Thicket.class.getDeclaredMethods()) {
            if (Modifier.isPublic(method.getModifiers())) {
                methods.add(method);
            }
        }
        methods.sort(Comparator.comparing(Method::getName));
        for (int run = 0; run < RUNS; run++) {
            new ModelTests(run, methods).play();
        }
        Checks.finish("ModelTests");
    }

    private static int below(int bound) {
        seed = seed * 6364136223846793005L + 1442695040888963407L;
        return (int) Math.floorMod(seed >>> 33, (long) bound);
    }

    private void play() {
        int calls = 0;
        int begin = 1 + below(vertexLimit);
        for (; calls < begin; calls++) {
            compare("addVertex", below(199) - 99);
        }
        for (int edge = 0; edge < begin && begin > 1; edge++, calls++) {
            compare("addEdge", below(begin), below(begin), 1 + below(weightLimit));
        }
        for (; calls < CALLS - 100; calls++) {
            if (below(100) < changesIn100) {
                change();
            } else {
                ask(methods.get(below(methods.size())));
            }
        }
        compareState();
    }

    private void change() {
        int kind = below(12);
        if (kind == 0 && model.values.size() < vertexLimit) {
            compare("addVertex", argument("value"));
        } else if (kind <= 4) {
            compare("addEdge", argument("one"), argument("other"), argument("weight"));
        } else if (kind <= 6 && model.edges.size() > 8) {
            compare("removeEdge", argument("edge"));
        } else if (kind <= 9) {
            compare("setWeight", argument("edge"), argument("weight"));
        } else if (kind == 10) {
            compare("addOnPath", argument("one"), argument("other"), argument("amount"));
        } else {
            compare("setValue", argument("vertex"), argument("value"));
        }
    }

    private void ask(Method method) {
        String[] kinds = kindsOf(method.getName(), method.getParameterCount());
        int[] arguments = new int[kinds.length];
        for (int i = 0; i < kinds.length; i++) {
            arguments[i] = argument(kinds[i]);
        }
        if (method.getName().equals("addVertex") && model.values.size() >= vertexLimit) {
            arguments[0] = 100;
        }
        compare(method, arguments);
    }

    private static String[] kindsOf(String name, int count) {
        switch (name) {
            case "addVertex": return new String[] {"value"};
            case "setValue": return new String[] {"vertex", "value"};
            case "addEdge": return new String[] {"vertex", "vertex", "weight"};
            case "setWeight": return new String[] {"edge", "weight"};
            case "addOnPath": return new String[] {"vertex", "vertex", "amount"};
            case "otherEnd": return new String[] {"edge", "vertex"};
            case "neighbour": return new String[] {"vertex", "index"};
            case "pathVertex": case "ancestor": case "ancestorByWalk":
                return new String[] {"vertex", "vertex", "index"};
            case "weight": case "state": case "removeEdge": case "replacement":
            case "replacementAnew":
                return new String[] {"edge"};
            default:
                String[] kinds = new String[count];
                Arrays.fill(kinds, "vertex");
                return kinds;
        }
    }

    private int argument(String kind) {
        if (below(100) < wrongIn100) {
            return EXTREMES[below(EXTREMES.length)];
        }
        switch (kind) {
            case "value": return below(199) - 99;
            case "weight": return 1 + below(weightLimit);
            case "amount": return below(19) - 9;
            case "index": return below(7) - 1;
            case "edge": return below(Math.max(1, model.edges.size()));
            default: return below(Math.max(1, model.values.size()));
        }
    }

    private void compare(String name, int... arguments) {
        for (Method method : methods) {
            if (method.getName().equals(name)) {
                compare(method, arguments);
            }
        }
    }

    private void compare(Method method, int... arguments) {
        String name = method.getName();
        Object[] boxed = new Object[arguments.length];
        for (int i = 0; i < boxed.length; i++) {
            boxed[i] = arguments[i];
        }
        String want = model.answer(name, arguments);
        String what = "run " + run + ": " + name + Arrays.toString(arguments);
        Checks.same(what, want, invoke(method, boxed));
    }

    private String invoke(Method method, Object[] arguments) {
        try {
            return String.valueOf(method.invoke(thicket, arguments));
        } catch (InvocationTargetException e) {
            return "throws " + e.getCause().getClass().getName();
        } catch (IllegalAccessException e) {
            return e.toString();
        }
    }

    private void compareState() {
        for (int vertex = 0; vertex < model.values.size(); vertex++) {
            compare("value", vertex);
        }
        for (int edge = 0; edge < model.edges.size(); edge++) {
            compare("state", edge);
        }
        compare("forestWeight");
        compare("forestWeightAnew");
        compare("trees");
    }
}
