import java.util.NoSuchElementException;

/** What many promises refuse alike: vertices and edges that are not there, and other trees. */
final class Refusals {
    static final Class<IndexOutOfBoundsException> INDEX = IndexOutOfBoundsException.class;
    static final Class<IllegalArgumentException> ARGUMENT = IllegalArgumentException.class;
    static final Class<IllegalStateException> STATE = IllegalStateException.class;
    static final Class<NoSuchElementException> ABSENT = NoSuchElementException.class;
    static final Class<UnsupportedOperationException> UNSUPPORTED =
            UnsupportedOperationException.class;

    interface OneVertex {
        Object answer(Thicket x, int vertex);
    }

    interface TwoVertices {
        Object answer(Thicket x, int one, int other);
    }

    private Refusals() {
    }

    static void indexIsChecked(String name, OneVertex call) {
        Thicket x = Graphs.bush();
        for (int vertex : new int[] {-1, 9, Integer.MIN_VALUE, Integer.MAX_VALUE}) {
            Checks.throwsDue(name + " of " + vertex, INDEX, () -> call.answer(x, vertex));
        }
        Checks.throwsDue(name + " of an empty graph", INDEX, () -> call.answer(new Thicket(), 0));
    }

    static void indexesAreChecked(String name, TwoVertices call) {
        Thicket x = Graphs.bush();
        indexIsChecked(name + " first", (y, vertex) -> call.answer(y, vertex, 0));
        indexIsChecked(name + " second", (y, vertex) -> call.answer(y, 0, vertex));
        Checks.throwsDue(name + " of the same wrong one", INDEX, () -> call.answer(x, 9, 9));
    }

    static void oneTreeIsAsked(String name, TwoVertices call) {
        indexesAreChecked(name, call);
        Thicket x = Graphs.bush();
        Checks.throwsDue(name + " from another tree", ABSENT, () -> call.answer(x, 8, 3));
        Checks.throwsDue(name + " to another tree", ABSENT, () -> call.answer(x, 3, 8));
    }

    static void edgeIsChecked(String name, OneVertex call) {
        Thicket x = Graphs.bush();
        for (int edge : new int[] {-1, 7, Integer.MIN_VALUE, Integer.MAX_VALUE}) {
            Checks.throwsDue(name + " of edge " + edge, INDEX, () -> call.answer(x, edge));
        }
        Checks.throwsDue(name + " without edges", INDEX,
                () -> call.answer(Graphs.withVertices(2), 0));
    }

    /** In graphs from the empty to the full one: the numbers right beside the vertices' own. */
    static void noSuchVertex(OneVertex call) {
        for (int count : new int[] {0, 1, 2, 9, 20}) {
            for (int vertex : beside(count)) {
                Checks.throwsDue("vertex " + vertex + " of " + count, INDEX,
                        () -> call.answer(Graphs.row(count), vertex));
            }
        }
        for (int count : new int[] {2, 9, 20}) {
            for (int vertex : new int[] {0, 1, count - 1}) {
                isFound("vertex " + vertex + " of " + count,
                        () -> call.answer(Graphs.row(count), vertex));
            }
        }
    }

    static void noSuchVertexForEither(TwoVertices call) {
        noSuchVertex((x, vertex) -> call.answer(x, vertex, 0));
        noSuchVertex((x, vertex) -> call.answer(x, 0, vertex));
        for (int vertex : beside(9)) {
            Checks.throwsDue("both are " + vertex, INDEX,
                    () -> call.answer(Graphs.bush(), vertex, vertex));
        }
    }

    /** In graphs without edges up to the full one: the numbers right beside the edges' own. */
    static void noSuchEdge(OneVertex call) {
        for (int count : new int[] {0, 1, 7, 60}) {
            for (int edge : beside(count)) {
                Checks.throwsDue("edge " + edge + " of " + count, INDEX,
                        () -> call.answer(Graphs.bundle(count), edge));
            }
        }
        for (int count : new int[] {1, 7, 60}) {
            for (int edge : new int[] {0, count - 1}) {
                isFound("edge " + edge + " of " + count,
                        () -> call.answer(Graphs.bundle(count), edge));
            }
        }
    }

    /** The greatest of them would be numbers of the graph's own if they wrapped around. */
    private static int[] beside(int count) {
        return new int[] {
            -1, count, count + 1, 256, 65536, Integer.MIN_VALUE, Integer.MAX_VALUE};
    }

    private static void isFound(String what, Checks.Call call) {
        boolean refused = Checks.answerOf(call).equals("throws " + INDEX.getName());
        Checks.same(what + " refused as missing", "false", String.valueOf(refused));
    }

    /** Two trees that stand apart, that fall apart, that are joined. */
    static void differentTrees(TwoVertices call) {
        Checks.throwsDue("vertices without edges", ABSENT,
                () -> call.answer(Graphs.withVertices(2), 0, 1));
        Thicket x = Graphs.bush();
        Checks.throwsDue("from another tree", ABSENT, () -> call.answer(x, 8, 3));
        Checks.throwsDue("to another tree", ABSENT, () -> call.answer(x, 3, 8));
        isOneTree("within a tree", () -> call.answer(x, 3, 7));
        x.removeEdge(1);
        Checks.throwsDue("fallen apart", ABSENT, () -> call.answer(x, 3, 7));
        Checks.throwsDue("fallen apart, turned", ABSENT, () -> call.answer(x, 7, 3));
        isOneTree("within the first part", () -> call.answer(x, 3, 4));
        isOneTree("within the second part", () -> call.answer(x, 7, 6));
        x.addEdge(8, 3, 99);
        isOneTree("joined", () -> call.answer(x, 8, 4));
        Checks.throwsDue("the other part is apart yet", ABSENT, () -> call.answer(x, 8, 7));
        x.addEdge(6, 8, 99);
        isOneTree("all joined", () -> call.answer(x, 3, 7));
    }

    private static void isOneTree(String what, Checks.Call call) {
        boolean refused = Checks.answerOf(call).equals("throws " + ABSENT.getName());
        Checks.same(what + " refused as apart", "false", String.valueOf(refused));
    }
}
