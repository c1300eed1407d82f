import java.io.IOException;
import java.util.NoSuchElementException;

/** Promises 25 to 32: each sentence that draws a boundary, on both of its sides. */
public final class PathBoundaryTests {
    private static final Class<IndexOutOfBoundsException> INDEX = Refusals.INDEX;
    private static final Class<IllegalArgumentException> ARGUMENT = Refusals.ARGUMENT;
    private static final Class<NoSuchElementException> ABSENT = Refusals.ABSENT;
    private static final Class<UnsupportedOperationException> UNSUPPORTED = Refusals.UNSUPPORTED;
    private static final String NO_VERTEX_FOR_EITHER = "if there is no such vertex, for either";
    private static final String DIFFERENT_TREES = "if they are in different trees";

    private static Sentences document;

    public static void main(String[] args) throws IOException {
        document = new Sentences(args[0]);
        pathVertices();
        pathVertex();
        pathVertexRefused();
        pathSum(27, "Returns the sum of the values on a path.", Thicket::pathSum);
        pathSum(28, "found by heavy paths", Thicket::pathSumByHeavyPaths);
        pathSum(29, "found by a walk", Thicket::pathSumByWalk);
        last(30, "Returns the last one, in the order of the edges", Thicket::last);
        last(31, "found by a walk", Thicket::lastByWalk);
        mean();
        document.everyRefusalIsTested(25, 32);
        Checks.finish("PathBoundaryTests");
    }

    private static void refusesVerticesAndTrees(int promise, Refusals.TwoVertices call) {
        document.refuses(promise, INDEX, NO_VERTEX_FOR_EITHER,
                () -> Refusals.noSuchVertexForEither(call));
        document.refuses(promise, ABSENT, DIFFERENT_TREES, () -> Refusals.differentTrees(call));
    }

    private static void pathVertices() {
        document.says("Promise 25", "Returns the number of vertices on a path.", () -> {
            Checks.due("to itself, alone", 1, () -> Graphs.withVertices(1).pathVertices(0, 0));
            Checks.due("to itself, in a tree", 1, () -> Graphs.line().pathVertices(7, 7));
            Checks.due("over one edge", 2, () -> Graphs.bundle(60).pathVertices(1, 0));
            Checks.due("the longest", 20, () -> Graphs.line().pathVertices(0, 19));
        });
        refusesVerticesAndTrees(25, Thicket::pathVertices);
    }

    private static void pathVertex() {
        document.says("Promise 26", "they are counted from 0, from the first vertex to the other"
                + " one", () -> {
            Thicket x = Graphs.line();
            for (int index = 0; index < 20; index++) {
                int at = index;
                Checks.due("of the longest, " + at, at, () -> x.pathVertex(0, 19, at));
                Checks.due("of the longest, turned, " + at, 19 - at,
                        () -> x.pathVertex(19, 0, at));
            }
            Checks.due("of the shortest", 7, () -> x.pathVertex(7, 7, 0));
        });
    }

    private static void pathVertexRefused() {
        refusesVerticesAndTrees(26, (x, one, other) -> x.pathVertex(one, other, 0));
        document.refuses(26, INDEX, NO_VERTEX_FOR_EITHER,
                () -> Refusals.noSuchVertexForEither((x, one, other) ->
                        x.pathVertex(one, other, -1)));
        document.refuses(26, ABSENT, DIFFERENT_TREES, () -> {
            Checks.throwsDue("before an index below 0", ABSENT,
                    () -> Graphs.bush().pathVertex(0, 8, -1));
            Checks.throwsDue("before an index too great", ABSENT,
                    () -> Graphs.bush().pathVertex(8, 0, 20));
        });
        document.refuses(26, ARGUMENT, "if there is no such vertex on the path", () -> {
            Thicket x = Graphs.line();
            for (int index : new int[] {-1, 20, 21, 256, Integer.MIN_VALUE, Integer.MAX_VALUE}) {
                Checks.throwsDue("longest, " + index, ARGUMENT, () -> x.pathVertex(0, 19, index));
            }
            for (int index : new int[] {-1, 1, 256, Integer.MIN_VALUE, Integer.MAX_VALUE}) {
                Checks.throwsDue("to itself, " + index, ARGUMENT, () -> x.pathVertex(7, 7, index));
                Checks.throwsDue("alone, " + index, ARGUMENT,
                        () -> Graphs.bush().pathVertex(8, 8, index));
            }
            Checks.throwsDue("right beyond a short path", ARGUMENT, () -> x.pathVertex(9, 7, 3));
            Checks.due("the end of a short path", 7, () -> x.pathVertex(9, 7, 2));
        });
    }

    private static void pathSum(int promise, String words, Refusals.TwoVertices call) {
        document.says("Promise " + promise, words, () -> {
            Checks.due("to itself, alone", 9, () -> call.answer(Graphs.bush(), 8, 8));
            Checks.due("to itself, in a tree", 8, () -> call.answer(Graphs.line(), 7, 7));
            Checks.due("the longest", 210, () -> call.answer(Graphs.line(), 0, 19));
            Checks.due("the longest, turned", 210, () -> call.answer(Graphs.line(), 19, 0));
            Checks.due("all but the ends", 189, () -> call.answer(Graphs.line(), 18, 1));
            Thicket x = Graphs.line();
            for (int time = 0; time < 300; time++) {
                x.addOnPath(0, 19, -9);
            }
            Checks.due("far below", 210 - 54000, () -> call.answer(x, 0, 19));
            Checks.due("far below, one", 1 - 2700, () -> call.answer(x, 0, 0));
        });
        refusesVerticesAndTrees(promise, call);
    }

    private static void last(int promise, String words, Refusals.TwoVertices call) {
        document.says("Promise " + promise, words, () -> {
            Checks.due("of one edge", 0, () -> call.answer(Graphs.row(2), 0, 1));
            Checks.due("of the longest", 18, () -> call.answer(Graphs.line(), 0, 19));
            Checks.due("up to the last", 17, () -> call.answer(Graphs.line(), 18, 0));
            Thicket x = Graphs.line();
            for (int edge = 0; edge < 19; edge++) {
                x.setWeight(edge, 50);
            }
            Checks.due("all the same, by number", 18, () -> call.answer(x, 19, 0));
            x.setWeight(0, 51);
            Checks.due("the first by its weight", 0, () -> call.answer(x, 0, 19));
            x.setWeight(9, 51);
            Checks.due("within the path, by number", 9, () -> call.answer(x, 0, 19));
            x.setWeight(9, 49);
            x.setWeight(0, 50);
            Checks.due("the ends alone", 8, () -> call.answer(x, 10, 0));
        });
        refusesVerticesAndTrees(promise, call);
        document.refuses(promise, UNSUPPORTED, "if both vertices are the same", () -> {
            Checks.throwsDue("vertex 0", UNSUPPORTED, () -> call.answer(Graphs.line(), 0, 0));
            Checks.throwsDue("vertex 19", UNSUPPORTED, () -> call.answer(Graphs.line(), 19, 19));
            Checks.throwsDue("alone", UNSUPPORTED, () -> call.answer(Graphs.bush(), 8, 8));
            Checks.throwsDue("no such vertex comes first", INDEX,
                    () -> call.answer(Graphs.bush(), 9, 9));
        });
    }

    private static void mean() {
        document.says("Promise 32", "Returns the sum of the values divided by the number of"
                + " vertices, both converted to float.", () -> {
            Thicket x = new Thicket();
            x.addVertex(-99);
            x.addVertex(99);
            x.addVertex(1);
            x.addEdge(0, 1, 1);
            x.addEdge(1, 2, 1);
            Checks.due("alone, the least", -99f, () -> x.mean(0, 0));
            Checks.due("alone, the greatest", 99f, () -> x.mean(1, 1));
            Checks.due("nothing, without a sign", "0.0", () -> x.mean(0, 1));
            Checks.due("a third", 1f / 3f, () -> x.mean(0, 2));
            x.setValue(1, -99);
            x.setValue(2, -1);
            Checks.due("below 0, not a whole one", -199f / 3f, () -> x.mean(2, 0));
            Checks.due("the longest", 10.5f, () -> Graphs.line().mean(19, 0));
        });
        refusesVerticesAndTrees(32, Thicket::mean);
    }
}
