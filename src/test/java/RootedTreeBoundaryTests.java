import java.io.IOException;
import java.util.NoSuchElementException;

/** Promises 33 to 46: each sentence that draws a boundary, on both of its sides. */
public final class RootedTreeBoundaryTests {
    private static final Class<IndexOutOfBoundsException> INDEX = Refusals.INDEX;
    private static final Class<IllegalArgumentException> ARGUMENT = Refusals.ARGUMENT;
    private static final Class<NoSuchElementException> ABSENT = Refusals.ABSENT;
    private static final Class<UnsupportedOperationException> UNSUPPORTED = Refusals.UNSUPPORTED;
    private static final String NO_VERTEX_FOR_EITHER = "if there is no such vertex, for either";
    private static final String OTHER_TREE = "if the vertex is not in the tree of the root";

    private interface ThreeNumbers {
        Object answer(Thicket x, int root, int vertex, int third);
    }

    private static Sentences document;

    public static void main(String[] args) throws IOException {
        document = new Sentences(args[0]);
        parent();
        depth();
        ancestor(35, "found by jumps", Thicket::ancestor);
        ancestor(36, "found by a walk", Thicket::ancestorByWalk);
        common(37, "found by jumps", Thicket::common);
        common(38, "found by walks", Thicket::commonByWalk);
        subtreeSize();
        subtreeSum();
        heavyChild();
        head();
        heavyPaths();
        lightEdges();
        diameter(45, "found by two walks", Thicket::diameter);
        diameter(46, "found by trying all pairs of vertices", Thicket::diameterByTrying);
        document.everyRefusalIsTested(33, 46);
        Checks.finish("RootedTreeBoundaryTests");
    }

    private static void refusesVerticesAndTrees(int promise, Refusals.TwoVertices call) {
        document.refuses(promise, INDEX, NO_VERTEX_FOR_EITHER,
                () -> Refusals.noSuchVertexForEither(call));
        document.refuses(promise, ABSENT, OTHER_TREE, () -> Refusals.differentTrees(call));
    }

    private static void parent() {
        document.says("Promise 33", "Returns the number of the parent.", () -> {
            Checks.due("vertex 0", 0, () -> Graphs.line().parent(0, 1));
            Checks.due("of the deepest", 18, () -> Graphs.line().parent(0, 19));
            Checks.due("of the deepest, turned", 1, () -> Graphs.line().parent(19, 0));
        });
        refusesVerticesAndTrees(33, Thicket::parent);
        document.refuses(33, UNSUPPORTED, "if the vertex is the root", () -> {
            Checks.throwsDue("alone", UNSUPPORTED, () -> Graphs.withVertices(1).parent(0, 0));
            for (int vertex : new int[] {0, 7, 19}) {
                Checks.throwsDue("of a line, " + vertex, UNSUPPORTED,
                        () -> Graphs.line().parent(vertex, vertex));
            }
            Checks.throwsDue("no such vertex comes first", INDEX,
                    () -> Graphs.bush().parent(9, 9));
        });
    }

    private static void depth() {
        document.says("Promise 34", "Returns the depth of a vertex.", () -> {
            Checks.due("alone", 0, () -> Graphs.withVertices(1).depth(0, 0));
            Checks.due("of the root", 0, () -> Graphs.line().depth(7, 7));
            Checks.due("below the root", 1, () -> Graphs.line().depth(7, 6));
            Checks.due("the deepest", 19, () -> Graphs.line().depth(19, 0));
        });
        refusesVerticesAndTrees(34, Thicket::depth);
    }

    private static void ancestor(int promise, String words, ThreeNumbers call) {
        document.says("Promise " + promise, words, () -> {
            Thicket x = Graphs.line();
            for (int distance = 0; distance < 20; distance++) {
                int by = distance;
                Checks.due("of the deepest, by " + by, by, () -> call.answer(x, 19, 0, by));
                Checks.due("up to the root, by " + by, 0, () -> call.answer(x, 0, by, by));
            }
        });
        refusesVerticesAndTrees(promise, (x, root, vertex) -> call.answer(x, root, vertex, 0));
        document.refuses(promise, INDEX, NO_VERTEX_FOR_EITHER, () ->
                Refusals.noSuchVertexForEither((x, root, vertex) ->
                        call.answer(x, root, vertex, -1)));
        document.refuses(promise, ABSENT, OTHER_TREE, () -> {
            Checks.throwsDue("before a distance below 0", ABSENT,
                    () -> call.answer(Graphs.bush(), 0, 8, -1));
            Checks.throwsDue("before a distance too great", ABSENT,
                    () -> call.answer(Graphs.bush(), 8, 0, 20));
        });
        document.refuses(promise, ARGUMENT,
                "if the distance is not between 0 and the depth of the vertex", () -> {
            Thicket x = Graphs.line();
            int[] wrong = {-1, 20, 32, 256, 65536, Integer.MIN_VALUE, Integer.MAX_VALUE};
            for (int distance : wrong) {
                Checks.throwsDue("of the deepest, by " + distance, ARGUMENT,
                        () -> call.answer(x, 0, 19, distance));
                Checks.throwsDue("of the root, by " + distance, ARGUMENT,
                        () -> call.answer(x, 7, 7, distance));
            }
            for (int depth = 0; depth < 19; depth++) {
                int vertex = depth;
                Checks.throwsDue("one above the root, from " + vertex, ARGUMENT,
                        () -> call.answer(x, 0, vertex, vertex + 1));
            }
            Checks.throwsDue("alone", ARGUMENT, () -> call.answer(Graphs.bush(), 8, 8, 1));
            Checks.due("alone, by nothing", 8, () -> call.answer(Graphs.bush(), 8, 8, 0));
        });
    }

    private static void common(int promise, String words, ThreeNumbers call) {
        document.says("Promise " + promise, words, () -> {
            Checks.due("alone", 0, () -> call.answer(Graphs.withVertices(1), 0, 0, 0));
            Thicket x = Graphs.line();
            Checks.due("the ends, from within", 7, () -> call.answer(x, 7, 0, 19));
            Checks.due("the ends, from an end", 0, () -> call.answer(x, 0, 0, 19));
            Checks.due("the ends, turned", 19, () -> call.answer(x, 19, 0, 19));
            Checks.due("the deepest with itself", 19, () -> call.answer(x, 0, 19, 19));
            Checks.due("the deepest with its parent", 18, () -> call.answer(x, 0, 19, 18));
            Checks.due("two leaves", 19, () -> call.answer(Graphs.star(), 0, 1, 18));
            Checks.due("the root and a leaf", 0, () -> call.answer(Graphs.star(), 0, 0, 18));
        });
        document.refuses(promise, INDEX, "if there is no such vertex, for any of the three", () -> {
            Refusals.noSuchVertex((x, root) -> call.answer(x, root, 0, 0));
            Refusals.noSuchVertexForEither((x, one, other) -> call.answer(x, 0, one, other));
            Thicket x = Graphs.bush();
            Checks.throwsDue("all three", INDEX, () -> call.answer(x, 9, 9, 9));
            Checks.throwsDue("the other, before the trees", INDEX, () -> call.answer(x, 0, 8, 9));
            Checks.throwsDue("the one, before the trees", INDEX, () -> call.answer(x, 0, -1, 8));
        });
        document.refuses(promise, ABSENT, "if one of the vertices is not in the tree of the root",
                () -> {
            Refusals.differentTrees((x, root, vertex) -> call.answer(x, root, vertex, root));
            Refusals.differentTrees((x, root, vertex) -> call.answer(x, root, root, vertex));
            Refusals.differentTrees((x, root, vertex) -> call.answer(x, root, vertex, vertex));
        });
    }

    private static void subtreeSize() {
        document.says("Promise 39", "Returns the number of vertices in the subtree of a vertex.",
                () -> {
            Checks.due("alone", 1, () -> Graphs.withVertices(1).subtreeSize(0, 0));
            Checks.due("of a leaf", 1, () -> Graphs.line().subtreeSize(0, 19));
            Checks.due("of a leaf, the root aside", 1, () -> Graphs.star().subtreeSize(19, 0));
            Checks.due("of the root, the most", 20, () -> Graphs.line().subtreeSize(19, 19));
            Checks.due("all but the root", 19, () -> Graphs.star().subtreeSize(0, 19));
        });
        refusesVerticesAndTrees(39, Thicket::subtreeSize);
    }

    private static void subtreeSum() {
        document.says("Promise 40", "Returns the sum of the values in the subtree of a vertex.",
                () -> {
            Checks.due("alone", 1, () -> Graphs.withVertices(1).subtreeSum(0, 0));
            Checks.due("of a leaf", 20, () -> Graphs.line().subtreeSum(0, 19));
            Checks.due("of the root, the most", 210, () -> Graphs.line().subtreeSum(19, 19));
            Checks.due("all but the root", 209, () -> Graphs.star().subtreeSum(0, 19));
            Thicket x = Graphs.line();
            for (int time = 0; time < 300; time++) {
                x.addOnPath(0, 19, 9);
            }
            Checks.due("far beyond", 54210, () -> x.subtreeSum(0, 0));
        });
        refusesVerticesAndTrees(40, Thicket::subtreeSum);
    }

    private static void heavyChild() {
        document.says("Promise 41", "Returns the heavy child of a vertex.", () -> {
            Checks.due("the only one", 19, () -> Graphs.star().heavyChild(0, 0));
            Checks.due("of many leaves, vertex 0", 0, () -> Graphs.star().heavyChild(19, 19));
            Checks.due("of many leaves, the root is none", 1,
                    () -> Graphs.star().heavyChild(0, 19));
            Checks.due("two as heavy", 8, () -> Graphs.row(19).heavyChild(9, 9));
            Checks.due("one heavier, the lower", 9, () -> Graphs.line().heavyChild(10, 10));
            Checks.due("one heavier, the higher", 10, () -> Graphs.line().heavyChild(9, 9));
        });
        refusesVerticesAndTrees(41, Thicket::heavyChild);
        document.refuses(41, UNSUPPORTED, "if the vertex has no child", () -> {
            Checks.throwsDue("alone", UNSUPPORTED, () -> Graphs.bush().heavyChild(8, 8));
            Checks.throwsDue("the deepest", UNSUPPORTED, () -> Graphs.line().heavyChild(0, 19));
            Checks.throwsDue("vertex 0", UNSUPPORTED, () -> Graphs.line().heavyChild(19, 0));
            Checks.due("the one above the deepest", 19, () -> Graphs.line().heavyChild(0, 18));
            Thicket x = Graphs.row(2);
            Checks.due("one edge", 1, () -> x.heavyChild(0, 0));
            x.removeEdge(0);
            Checks.throwsDue("its edge was removed", UNSUPPORTED, () -> x.heavyChild(0, 0));
            Checks.throwsDue("no such vertex comes first", INDEX, () -> x.heavyChild(2, 2));
            Checks.throwsDue("another tree comes first", ABSENT, () -> x.heavyChild(0, 1));
        });
    }

    private static void head() {
        document.says("Promise 42", "Returns the head of the heavy path of a vertex.", () -> {
            Checks.due("alone", 8, () -> Graphs.bush().head(8, 8));
            Checks.due("the root", 7, () -> Graphs.line().head(7, 7));
            Checks.due("the deepest", 0, () -> Graphs.line().head(0, 19));
            Checks.due("by a light edge", 6, () -> Graphs.line().head(7, 6));
            Checks.due("by a light edge, the deepest", 6, () -> Graphs.line().head(7, 0));
            Checks.due("of many leaves, the heavy one", 19, () -> Graphs.star().head(19, 0));
            Checks.due("of many leaves, a light one", 1, () -> Graphs.star().head(19, 1));
        });
        refusesVerticesAndTrees(42, Thicket::head);
    }

    private static void heavyPaths() {
        document.says("Promise 43", "Returns the number of heavy paths of a rooted tree.", () -> {
            Checks.due("alone", 1, () -> Graphs.bush().heavyPaths(8));
            Checks.due("a line", 1, () -> Graphs.line().heavyPaths(19));
            Checks.due("a line from within", 2, () -> Graphs.line().heavyPaths(18));
            Checks.due("the most", 19, () -> Graphs.star().heavyPaths(19));
            Checks.due("from a leaf", 18, () -> Graphs.star().heavyPaths(18));
        });
        document.refuses(43, INDEX, "if there is no such vertex",
                () -> Refusals.noSuchVertex(Thicket::heavyPaths));
    }

    private static void lightEdges() {
        document.says("Promise 44", "Returns the number of light edges on the path from a vertex"
                + " to the root.", () -> {
            Checks.due("alone", 0, () -> Graphs.bush().lightEdges(8, 8));
            Checks.due("of the root", 0, () -> Graphs.line().lightEdges(7, 7));
            Checks.due("heavy ones alone", 0, () -> Graphs.line().lightEdges(7, 19));
            Checks.due("one at the root", 1, () -> Graphs.line().lightEdges(7, 0));
            Checks.due("the heavy leaf", 0, () -> Graphs.star().lightEdges(19, 0));
            Checks.due("a light leaf", 1, () -> Graphs.star().lightEdges(19, 18));
            Checks.due("light ones in a row", 3, () -> balanced().lightEdges(0, 14));
        });
        refusesVerticesAndTrees(44, Thicket::lightEdges);
    }

    /** Each vertex up to 6 has two children, 2n + 1 and 2n + 2, which are equally heavy. */
    private static Thicket balanced() {
        Thicket x = Graphs.withVertices(15);
        for (int vertex = 1; vertex < 15; vertex++) {
            x.addEdge(vertex, (vertex - 1) / 2, 1);
        }
        return x;
    }

    private static void diameter(int promise, String words, Refusals.OneVertex call) {
        document.says("Promise " + promise, words, () -> {
            Checks.due("alone", 0, () -> call.answer(Graphs.bush(), 8));
            Checks.due("one edge", 1, () -> call.answer(Graphs.bundle(60), 1));
            for (int vertex : new int[] {0, 7, 19}) {
                Checks.due("the most, from " + vertex, 19,
                        () -> call.answer(Graphs.line(), vertex));
                Checks.due("of a star, from " + vertex, 2,
                        () -> call.answer(Graphs.star(), vertex));
            }
            Checks.due("beside the root", 6, () -> call.answer(balanced(), 0));
            Thicket x = balanced();
            x.removeEdge(0);
            Checks.due("of the part with the root", 4, () -> call.answer(x, 0));
            Checks.due("of the other part", 4, () -> call.answer(x, 7));
        });
        document.refuses(promise, INDEX, "if there is no such vertex",
                () -> Refusals.noSuchVertex(call));
    }
}
