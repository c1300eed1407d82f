import java.io.IOException;
import java.util.ArrayList;
import java.util.Arrays;
import java.util.List;

/**
 * Every call with every choice of arguments at the boundaries and beside them, in graphs from the
 * empty to the full one: the answer is the plain model's, the first exception listed if several
 * apply, and a call that is refused, or that only asks, changes nothing that can be asked.
 */
public final class RefusedCallTests {
    /** A graph, told by the calls that lead to it. */
    private static final class Beginning {
        final String name;
        final List<String> calls = new ArrayList<>();
        final List<int[]> arguments = new ArrayList<>();

        Beginning(String name) {
            this.name = name;
        }

        Beginning then(String call, int... its) {
            calls.add(call);
            arguments.add(its);
            return this;
        }

        Thicket made() {
            Thicket x = new Thicket();
            for (int call = 0; call < calls.size(); call++) {
                Calls.answer(x, calls.get(call), arguments.get(call));
            }
            return x;
        }

        PlainModel modelled() {
            PlainModel model = new PlainModel();
            for (int call = 0; call < calls.size(); call++) {
                model.answer(calls.get(call), arguments.get(call));
            }
            return model;
        }
    }

    private interface Answers {
        String to(String name, int... arguments);
    }

    private static final List<String> CHANGES = List.of(
            "addVertex", "setValue", "addEdge", "removeEdge", "setWeight", "addOnPath");

    private final Beginning beginning;
    private final int vertices;
    private final int edges;
    private final PlainModel unchanged;
    private final String before;

    private RefusedCallTests(Beginning beginning) {
        this.beginning = beginning;
        unchanged = beginning.modelled();
        vertices = unchanged.values.size();
        edges = unchanged.edges.size();
        before = askedOf(unchanged);
    }

    public static void main(String[] args) throws IOException {
        Sentences document = new Sentences(args[0]);
        document.says("Terms", "A method that throws an exception changes nothing. If several"
                + " exceptions apply, the one that is listed first is thrown.", () -> {
            for (Beginning beginning : beginnings()) {
                new RefusedCallTests(beginning).tryAll();
            }
        });
        Checks.finish("RefusedCallTests");
    }

    private static List<Beginning> beginnings() {
        return List.of(new Beginning("empty"), oneVertex(), twoTrees(), full(), bare());
    }

    private static Beginning oneVertex() {
        return new Beginning("one vertex").then("addVertex", 7);
    }

    /** With values beyond 99, edges outside the forest and removed ones. */
    private static Beginning twoTrees() {
        Beginning calls = new Beginning("two trees");
        for (int vertex = 0; vertex < 7; vertex++) {
            calls.then("addVertex", vertex % 2 == 0 ? 99 : -99);
        }
        calls.then("addEdge", 0, 1, 9).then("addEdge", 1, 2, 5).then("addEdge", 2, 0, 5);
        calls.then("addEdge", 2, 3, 1).then("addEdge", 0, 1, 99).then("addEdge", 3, 4, 7);
        calls.then("addEdge", 5, 6, 50).then("addEdge", 6, 5, 50).then("addEdge", 4, 0, 7);
        return calls.then("addOnPath", 0, 4, 9).then("addOnPath", 5, 5, -9).then("removeEdge", 5);
    }

    /** 20 vertices and 60 edges: a ring and chords, the lightest ones removed. */
    private static Beginning full() {
        Beginning calls = new Beginning("full");
        for (int vertex = 0; vertex < 20; vertex++) {
            calls.then("addVertex", vertex * 10 - 95);
        }
        for (int edge = 0; edge < 60; edge++) {
            int one = edge % 19;
            calls.then("addEdge", one, (one + 1 + edge / 19) % 19, 1 + edge * 37 % 99);
        }
        calls.then("addOnPath", 0, 9, 9).then("addOnPath", 18, 18, 9);
        return calls.then("removeEdge", 0).then("removeEdge", 59).then("removeEdge", 8);
    }

    /** 20 vertices and room for no edge more, though every edge is removed. */
    private static Beginning bare() {
        Beginning calls = new Beginning("bare");
        for (int vertex = 0; vertex < 20; vertex++) {
            calls.then("addVertex", 99);
        }
        for (int edge = 0; edge < 60; edge++) {
            calls.then("addEdge", 0, 1 + edge % 19, 99).then("removeEdge", edge);
        }
        return calls;
    }

    private void tryAll() {
        Checks.same(beginning.name, before, askedOf(beginning.made(), unchanged));
        for (String name : Calls.NAMES) {
            String[] kinds = Calls.kindsOf(name);
            tryFrom(name, kinds, new int[kinds.length], 0);
        }
    }

    private void tryFrom(String name, String[] kinds, int[] arguments, int place) {
        if (place == kinds.length) {
            tryOnce(name, arguments);
            return;
        }
        for (int argument : around(kinds[place])) {
            arguments[place] = argument;
            tryFrom(name, kinds, arguments, place + 1);
        }
    }

    /** The numbers at each boundary, and those beside it that are refused. */
    private int[] around(String kind) {
        int least = Integer.MIN_VALUE;
        int most = Integer.MAX_VALUE;
        switch (kind) {
            case "value": return new int[] {least, -100, -99, 0, 99, 100, 261, most};
            case "weight": return new int[] {least, -1, 0, 1, 50, 99, 100, 261, most};
            case "amount": return new int[] {least, -10, -9, 0, 9, 10, 256, most};
            case "index": return new int[] {least, -1, 0, 1, 2, 18, 19, 20, most};
            case "edge":
                return new int[] {least, -1, 0, 1, 5, edges - 2, edges - 1, edges, 60, most};
            default: return new int[] {least, -1, 0, 1, 6, vertices - 1, vertices, most};
        }
    }

    private void tryOnce(String name, int[] arguments) {
        String what = beginning.name + ": " + name + Arrays.toString(arguments);
        boolean mayChange = CHANGES.contains(name);
        PlainModel model = mayChange ? beginning.modelled() : unchanged;
        Thicket x = beginning.made();
        String due = model.answer(name, arguments);
        Checks.same(what, due, Calls.answer(x, name, arguments));
        boolean changes = mayChange && !due.startsWith("throws ");
        Checks.same("after " + what, changes ? askedOf(model) : before, askedOf(x, model));
    }

    private String askedOf(PlainModel model) {
        return asked(model::answer, model);
    }

    private String askedOf(Thicket x, PlainModel ends) {
        return asked((name, arguments) -> Calls.answer(x, name, arguments), ends);
    }

    /** All that tells one graph from another; the edges' ends are asked where they should be. */
    private String asked(Answers answers, PlainModel ends) {
        StringBuilder all = new StringBuilder();
        for (String name : List.of("vertices", "edges", "trees", "forestWeight",
                "forestWeightAnew")) {
            all.append(answers.to(name)).append(' ');
        }
        for (int vertex = 0; vertex <= vertices && vertex < 20; vertex++) {
            all.append(answers.to("value", vertex)).append(' ');
        }
        for (int edge = 0; edge <= edges && edge < 60; edge++) {
            int one = edge < ends.edges.size() ? ends.edges.get(edge).one : 0;
            all.append(answers.to("weight", edge)).append(answers.to("state", edge));
            all.append(answers.to("otherEnd", edge, one)).append(' ');
        }
        return all.toString();
    }
}
