import java.util.Arrays;

/**
 * Runs of 512 calls on fresh objects, each answer compared with the plain model's. The calls come
 * from a fixed sequence of numbers, so that every run of the tests makes the same calls.
 */
public final class ModelTests {
    private static final int RUNS = 240;
    private static final int CALLS = 512;
    private static final int[] EXTREMES = {
        Integer.MIN_VALUE, Integer.MIN_VALUE + 1, -100, -99, -10, -9, -1, 0, 9, 10, 19, 20, 21,
        59, 60, 61, 99, 100, Integer.MAX_VALUE - 1, Integer.MAX_VALUE};

    private static long seed = 20260731;

    private final Thicket thicket = new Thicket();
    private final PlainModel model = new PlainModel();
    private final int run;
    private final int vertexLimit;
    private final int weightLimit;
    private final int wrongIn100;
    private final int changesIn100;

    private ModelTests(int run) {
        this.run = run;
        vertexLimit = new int[] {20, 8, 14, 4, 20, 20}[run % 6];
        weightLimit = new int[] {99, 3, 10, 1, 2}[run % 5];
        wrongIn100 = new int[] {2, 10, 0, 30}[run % 4];
        changesIn100 = new int[] {50, 20, 80}[run % 3];
    }

    public static void main(String[] args) {
        for (int run = 0; run < RUNS; run++) {
            new ModelTests(run).play();
        }
        Checks.finish("ModelTests");
    }

    private static int below(int bound) {
        seed = seed * 6364136223846793005L + 1442695040888963407L;
        return (int) Math.floorMod(seed >>> 33, (long) bound);
    }

    private void play() {
        int calls = 0;
        int begin = 1 + below(vertexLimit);
        for (; calls < begin; calls++) {
            compare("addVertex", below(199) - 99);
        }
        for (int edge = 0; edge < begin && begin > 1; edge++, calls++) {
            compare("addEdge", below(begin), below(begin), 1 + below(weightLimit));
        }
        for (; calls < CALLS - 100; calls++) {
            if (below(100) < changesIn100) {
                change();
            } else {
                ask(Calls.NAMES.get(below(Calls.NAMES.size())));
            }
        }
        compareState();
    }

    private void change() {
        int kind = below(12);
        if (kind == 0 && model.values.size() < vertexLimit) {
            compare("addVertex", argument("value"));
        } else if (kind <= 4) {
            compare("addEdge", argument("one"), argument("other"), argument("weight"));
        } else if (kind <= 6 && model.edges.size() > 8) {
            compare("removeEdge", argument("edge"));
        } else if (kind <= 9) {
            compare("setWeight", argument("edge"), argument("weight"));
        } else if (kind == 10) {
            compare("addOnPath", argument("one"), argument("other"), argument("amount"));
        } else {
            compare("setValue", argument("vertex"), argument("value"));
        }
    }

    private void ask(String name) {
        String[] kinds = Calls.kindsOf(name);
        int[] arguments = new int[kinds.length];
        for (int i = 0; i < kinds.length; i++) {
            arguments[i] = argument(kinds[i]);
        }
        if (name.equals("addVertex") && model.values.size() >= vertexLimit) {
            arguments[0] = 100;
        }
        compare(name, arguments);
    }

    private int argument(String kind) {
        if (below(100) < wrongIn100) {
            return EXTREMES[below(EXTREMES.length)];
        }
        switch (kind) {
            case "value": return below(199) - 99;
            case "weight": return 1 + below(weightLimit);
            case "amount": return below(19) - 9;
            case "index": return below(7) - 1;
            case "edge": return below(Math.max(1, model.edges.size()));
            default: return below(Math.max(1, model.values.size()));
        }
    }

    private void compare(String name, int... arguments) {
        String what = "run " + run + ": " + name + Arrays.toString(arguments);
        Checks.same(what, model.answer(name, arguments), Calls.answer(thicket, name, arguments));
    }

    private void compareState() {
        for (int vertex = 0; vertex < model.values.size(); vertex++) {
            compare("value", vertex);
        }
        for (int edge = 0; edge < model.edges.size(); edge++) {
            compare("state", edge);
        }
        compare("forestWeight");
        compare("forestWeightAnew");
        compare("trees");
    }
}
