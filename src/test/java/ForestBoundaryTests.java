import java.io.IOException;
import java.util.NoSuchElementException;

/** Promises 16 to 24: each sentence that draws a boundary, on both of its sides. */
public final class ForestBoundaryTests {
    private static final Class<IndexOutOfBoundsException> INDEX = Refusals.INDEX;
    private static final Class<IllegalStateException> STATE = Refusals.STATE;
    private static final Class<NoSuchElementException> ABSENT = Refusals.ABSENT;
    private static final String NO_VERTEX = "if there is no such vertex";
    private static final String NO_VERTEX_FOR_EITHER = "if there is no such vertex, for either";
    private static final String NO_EDGE = "if there is no such edge";

    private interface Whole {
        Object answer(Thicket x);
    }

    private static Sentences document;

    public static void main(String[] args) throws IOException {
        document = new Sentences(args[0]);
        forestWeight(16, "the sum of the weights of the forest", Thicket::forestWeight);
        forestWeight(17, "found from all present edges", Thicket::forestWeightAnew);
        trees();
        degree();
        neighbour();
        connection(21, "whether two vertices are in the same tree", Thicket::isConnected);
        connection(22, "found by a walk over present edges", Thicket::isConnectedByWalk);
        replacement(23, Thicket::replacement);
        replacement(24, Thicket::replacementAnew);
        document.everyRefusalIsTested(16, 24);
        Checks.finish("ForestBoundaryTests");
    }

    private static void forestWeight(int promise, String words, Whole call) {
        document.says("Promise " + promise, words, () -> {
            Checks.due("of an empty graph", 0, () -> call.answer(new Thicket()));
            Checks.due("without edges", 0, () -> call.answer(Graphs.withVertices(20)));
            Checks.due("one of 60 edges", 1, () -> call.answer(Graphs.bundle(60)));
            Checks.due("the most edges", 190, () -> call.answer(Graphs.line()));
            Thicket x = Graphs.line();
            for (int edge = 0; edge < 19; edge++) {
                x.setWeight(edge, 99);
            }
            Checks.due("the most weight", 1881, () -> call.answer(x));
            for (int edge = 0; edge < 19; edge++) {
                x.removeEdge(edge);
            }
            Checks.due("all removed", 0, () -> call.answer(x));
            Checks.due("the lightest added last", 4, () -> call.answer(heaviestFirst()));
        });
    }

    /** All four vertices joined with each other: the edges to 3 come first and are the heaviest. */
    private static Thicket heaviestFirst() {
        Thicket x = Graphs.withVertices(4);
        x.addEdge(2, 3, 6);
        x.addEdge(1, 3, 5);
        x.addEdge(0, 3, 4);
        x.addEdge(1, 2, 1);
        x.addEdge(0, 2, 1);
        x.addEdge(0, 1, 1);
        x.setWeight(2, 2);
        return x;
    }

    private static void trees() {
        document.says("Promise 18", "Returns the number of trees.", () -> {
            Checks.due("of an empty graph", 0, () -> new Thicket().trees());
            Checks.due("of one vertex", 1, () -> Graphs.withVertices(1).trees());
            Checks.due("without edges", 20, () -> Graphs.withVertices(20).trees());
            Checks.due("all in one", 1, () -> Graphs.line().trees());
            Checks.due("60 edges in one", 1, () -> Graphs.bundle(60).trees());
            Thicket x = Graphs.line();
            for (int edge = 0; edge < 19; edge++) {
                x.removeEdge(edge);
            }
            Checks.due("all removed", 20, x::trees);
        });
    }

    private static void degree() {
        document.says("Promise 19", "Returns the number of edges of the forest at a vertex.",
                () -> {
            Checks.due("none", 0, () -> Graphs.withVertices(20).degree(19));
            Checks.due("the most", 19, () -> Graphs.star().degree(19));
            Checks.due("one of 60 edges", 1, () -> Graphs.bundle(60).degree(0));
            Thicket x = Graphs.star();
            for (int edge = 0; edge < 19; edge++) {
                x.removeEdge(edge);
            }
            Checks.due("all removed", 0, () -> x.degree(19));
        });
        document.refuses(19, INDEX, NO_VERTEX, () -> Refusals.noSuchVertex(Thicket::degree));
    }

    private static void neighbour() {
        document.says("Promise 20", "they are counted from 0 by rising numbers", () -> {
            Thicket x = new Thicket();
            for (int vertex = 0; vertex < 20; vertex++) {
                x.addVertex(0);
            }
            for (int vertex = 19; vertex >= 0; vertex--) {
                if (vertex != 10) {
                    x.addEdge(10, vertex, 1 + vertex);
                }
            }
            Checks.due("the first", 0, () -> x.neighbour(10, 0));
            Checks.due("the one below", 9, () -> x.neighbour(10, 9));
            Checks.due("the one above", 11, () -> x.neighbour(10, 10));
            Checks.due("the last of the most", 19, () -> x.neighbour(10, 18));
            Checks.due("the only one", 10, () -> x.neighbour(0, 0));
        });
        document.refuses(20, INDEX, NO_VERTEX, () -> {
            Refusals.noSuchVertex((x, vertex) -> x.neighbour(vertex, 0));
            Refusals.noSuchVertex((x, vertex) -> x.neighbour(vertex, -1));
        });
        document.refuses(20, ABSENT, "if it has no such neighbour", () -> {
            int[] below = {-1, Integer.MIN_VALUE};
            int[] above = {19, 20, 256, 65536, Integer.MAX_VALUE};
            Thicket x = Graphs.star();
            for (int index : below) {
                Checks.throwsDue("index " + index, ABSENT, () -> x.neighbour(19, index));
            }
            for (int index : above) {
                Checks.throwsDue("index " + index, ABSENT, () -> x.neighbour(19, index));
            }
            Checks.throwsDue("second of one", ABSENT, () -> x.neighbour(0, 1));
            Checks.throwsDue("of none", ABSENT, () -> Graphs.bush().neighbour(8, 0));
            Checks.throwsDue("by an edge outside the forest", ABSENT,
                    () -> Graphs.bundle(60).neighbour(0, 1));
            x.removeEdge(18);
            Checks.throwsDue("by a removed edge", ABSENT, () -> x.neighbour(19, 18));
            Checks.due("the last by a present edge", 17, () -> x.neighbour(19, 17));
        });
    }

    private static void connection(int promise, String words, Refusals.TwoVertices call) {
        document.says("Promise " + promise, words, () -> {
            Checks.due("a vertex without an edge, with itself", true,
                    () -> call.answer(Graphs.withVertices(1), 0, 0));
            Checks.due("vertices without edges", false,
                    () -> call.answer(Graphs.withVertices(20), 0, 19));
            Thicket x = Graphs.line();
            Checks.due("the ends of a line", true, () -> call.answer(x, 0, 19));
            Checks.due("the ends of a line, turned", true, () -> call.answer(x, 19, 0));
            x.removeEdge(18);
            Checks.due("the end is cut off", false, () -> call.answer(x, 0, 19));
            Checks.due("the end is cut off, turned", false, () -> call.answer(x, 19, 0));
            Checks.due("the one before the end", true, () -> call.answer(x, 0, 18));
            Checks.due("the end with itself", true, () -> call.answer(x, 19, 19));
            Thicket pair = Graphs.bundle(2);
            pair.removeEdge(0);
            Checks.due("one edge is left", true, () -> call.answer(pair, 0, 1));
            pair.removeEdge(1);
            Checks.due("no edge is left", false, () -> call.answer(pair, 0, 1));
        });
        document.refuses(promise, INDEX, NO_VERTEX_FOR_EITHER,
                () -> Refusals.noSuchVertexForEither(call));
    }

    private static void replacement(int promise, Refusals.OneVertex call) {
        document.says("Promise " + promise, "Returns the number of that edge.", () -> {
            Thicket x = Graphs.withVertices(2);
            for (int edge = 0; edge < 60; edge++) {
                x.addEdge(edge % 2, 1 - edge % 2, 99);
            }
            Checks.due("of many of the same weight", 1, () -> call.answer(x, 0));
            x.setWeight(59, 98);
            Checks.due("edge 0", 0, () -> call.answer(x, 59));
            x.setWeight(59, 99);
            x.setWeight(0, 98);
            x.setWeight(58, 98);
            Checks.due("the one before the last", 58, () -> call.answer(x, 0));
            Thicket far = Graphs.line();
            far.addEdge(19, 0, 99);
            Checks.due("round the whole line, its first", 19, () -> call.answer(far, 0));
            Checks.due("round the whole line, its last", 19, () -> call.answer(far, 18));
            Thicket turned = heaviestFirst();
            Checks.due("the lightest added last", 1, () -> call.answer(turned, 2));
            Checks.due("the last added", 5, () -> call.answer(turned, 4));
            turned.removeEdge(2);
            Checks.due("edge 0, the heaviest", 0, () -> call.answer(turned, 1));
            turned.removeEdge(0);
            Checks.throwsDue("edge 0 no more", ABSENT, () -> call.answer(turned, 1));
        });
        document.refuses(promise, INDEX, NO_EDGE, () -> Refusals.noSuchEdge(call));
        document.refuses(promise, STATE, "if the edge does not belong to the forest", () -> {
            Thicket x = Graphs.bundle(2);
            Checks.throwsDue("outside", STATE, () -> call.answer(x, 1));
            Checks.due("in the forest", 1, () -> call.answer(x, 0));
            x.removeEdge(0);
            Checks.throwsDue("removed from the forest", STATE, () -> call.answer(x, 0));
            Checks.throwsDue("now in the forest, with none to replace it", ABSENT,
                    () -> call.answer(x, 1));
            Thicket rest = Graphs.bundle(2);
            rest.removeEdge(1);
            Checks.throwsDue("removed from outside", STATE, () -> call.answer(rest, 1));
        });
        document.refuses(promise, ABSENT, "if there is none", () -> {
            Thicket x = Graphs.line();
            Checks.throwsDue("the first of a line", ABSENT, () -> call.answer(x, 0));
            Checks.throwsDue("the last of a line", ABSENT, () -> call.answer(x, 18));
            x.addEdge(0, 18, 99);
            Checks.due("one leads round it", 19, () -> call.answer(x, 17));
            Checks.throwsDue("none leads round it", ABSENT, () -> call.answer(x, 18));
            x.removeEdge(19);
            Checks.throwsDue("the one round it was removed", ABSENT, () -> call.answer(x, 17));
            Checks.due("the edge is as before", 'f', () -> x.state(17));
        });
    }
}
