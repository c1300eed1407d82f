import java.io.IOException;
import java.util.NoSuchElementException;

/** Promises 1 to 15: each sentence that draws a boundary, on both of its sides. */
public final class GraphBoundaryTests {
    private static final Class<IndexOutOfBoundsException> INDEX = Refusals.INDEX;
    private static final Class<IllegalArgumentException> ARGUMENT = Refusals.ARGUMENT;
    private static final Class<IllegalStateException> STATE = Refusals.STATE;
    private static final Class<NoSuchElementException> ABSENT = Refusals.ABSENT;
    private static final Class<UnsupportedOperationException> UNSUPPORTED = Refusals.UNSUPPORTED;
    private static final String NO_VERTEX = "if there is no such vertex";
    private static final String NO_VERTEX_FOR_EITHER = "if there is no such vertex, for either";
    private static final String NO_EDGE = "if there is no such edge";
    /** The first ones beyond the values, and those that would wrap around into them. */
    private static final int[] WRONG_VALUES = {
        -100, 100, 128, 256, 65536 + 5, -65536, Integer.MIN_VALUE, Integer.MAX_VALUE};
    private static final int[] WRONG_WEIGHTS = {
        0, 100, -1, -99, 128, 256 + 5, 65536 + 5, Integer.MIN_VALUE, Integer.MAX_VALUE};
    private static final int[] WRONG_AMOUNTS = {
        -10, 10, 256, 256 - 9, 65536 + 9, -65536, Integer.MIN_VALUE, Integer.MAX_VALUE};

    private static Sentences document;

    public static void main(String[] args) throws IOException {
        document = new Sentences(args[0]);
        newObject();
        addVertex();
        setValue();
        addEdge();
        addedEdges();
        removeEdge();
        setWeight();
        changedWeights();
        addOnPath();
        counts();
        value();
        weight();
        state();
        otherEnd();
        parallel();
        lightest();
        document.everyRefusalIsTested(1, 15);
        Checks.finish("GraphBoundaryTests");
    }

    private static void newObject() {
        document.says("Promise 1", "Creates a graph without vertices.", () -> {
            Thicket x = new Thicket();
            Checks.due("vertices", 0, x::vertices);
            Checks.due("edges", 0, x::edges);
            Checks.due("trees", 0, x::trees);
            Checks.due("forestWeight", 0, x::forestWeight);
            Checks.due("forestWeightAnew", 0, x::forestWeightAnew);
            Checks.throwsDue("value", INDEX, () -> x.value(0));
            Checks.throwsDue("state", INDEX, () -> x.state(0));
            Checks.throwsDue("isConnected", INDEX, () -> x.isConnected(0, 0));
            Checks.throwsDue("diameter", INDEX, () -> x.diameter(0));
            Checks.due("the first vertex", 0, () -> x.addVertex(0));
        });
    }

    private static void addVertex() {
        document.refuses(2, ARGUMENT, "if the value is not between -99 and 99", () -> {
            Thicket x = new Thicket();
            for (int value : WRONG_VALUES) {
                Checks.throwsDue("value " + value, ARGUMENT, () -> x.addVertex(value));
            }
            Checks.due("no number was taken", 0, () -> x.addVertex(-99));
            Checks.due("the greatest value", 1, () -> x.addVertex(99));
            Checks.due("no value", 2, () -> x.addVertex(0));
            int[] kept = {-99, 99, 0};
            for (int vertex = 0; vertex < 3; vertex++) {
                int at = vertex;
                Checks.due("kept at " + at, kept[at], () -> x.value(at));
            }
        });
        document.refuses(2, STATE, "if there are 20 vertices", () -> {
            Thicket x = Graphs.withVertices(19);
            Checks.due("the last one", 19, () -> x.addVertex(7));
            Checks.throwsDue("one more", STATE, () -> x.addVertex(7));
            Checks.throwsDue("one more again", STATE, () -> x.addVertex(-7));
            Checks.throwsDue("the value is looked at first", ARGUMENT, () -> x.addVertex(100));
            Checks.due("20 as before", 20, x::vertices);
            Checks.due("20 trees as before", 20, x::trees);
            Checks.due("the last one is as before", 7, () -> x.value(19));
            Checks.due("the first one is as before", 1, () -> x.value(0));
            Checks.throwsDue("there is no more", INDEX, () -> x.value(20));
        });
    }

    private static void setValue() {
        document.refuses(3, INDEX, NO_VERTEX, () -> {
            Refusals.noSuchVertex((x, vertex) -> x.setValue(vertex, 5));
            Thicket x = Graphs.bush();
            Checks.throwsDue("the vertex is looked at first", INDEX, () -> x.setValue(9, 100));
            Checks.throwsDue("before a value too small", INDEX, () -> x.setValue(-1, -100));
        });
        document.refuses(3, ARGUMENT, "if the value is not between -99 and 99", () -> {
            Thicket x = Graphs.bush();
            for (int value : WRONG_VALUES) {
                Checks.throwsDue("value " + value, ARGUMENT, () -> x.setValue(8, value));
            }
            Checks.due("nothing was set", 9, () -> x.setValue(8, -99));
            Checks.due("the least was set", -99, () -> x.setValue(8, 99));
            Checks.due("the greatest was set", 99, () -> x.setValue(8, 99));
            Checks.due("the same was set", 99, () -> x.value(8));
        });
        document.says("Promise 3", "Returns the value before.", () -> {
            Thicket x = Graphs.withVertices(1);
            x.setValue(0, 99);
            x.addOnPath(0, 0, 1);
            Checks.due("one beyond the greatest", 100, () -> x.setValue(0, -99));
            x.addOnPath(0, 0, -1);
            Checks.due("one beyond the least", -100, () -> x.setValue(0, 0));
            Checks.due("within again", 0, () -> x.value(0));
        });
    }

    private static void addEdge() {
        document.refuses(4, INDEX, NO_VERTEX_FOR_EITHER, () -> {
            Refusals.noSuchVertexForEither((x, one, other) -> x.addEdge(one, other, 5));
            Thicket x = Graphs.bush();
            Checks.throwsDue("before the weight", INDEX, () -> x.addEdge(0, 9, 0));
            Checks.throwsDue("before the weight, turned", INDEX, () -> x.addEdge(9, 0, 100));
            Checks.throwsDue("before the sameness", INDEX, () -> x.addEdge(-1, -1, 5));
            Checks.throwsDue("before the count", INDEX, () -> Graphs.bundle(60).addEdge(0, 2, 5));
        });
        document.refuses(4, ARGUMENT, "if the weight is not between 1 and 99", () -> {
            Thicket x = Graphs.withVertices(2);
            for (int weight : WRONG_WEIGHTS) {
                Checks.throwsDue("weight " + weight, ARGUMENT, () -> x.addEdge(0, 1, weight));
            }
            Checks.throwsDue("before the sameness", ARGUMENT, () -> x.addEdge(0, 0, 0));
            Checks.throwsDue("before the count", ARGUMENT,
                    () -> Graphs.bundle(60).addEdge(0, 1, 0));
            Checks.due("no number was taken", 0, () -> x.addEdge(0, 1, 99));
            Checks.due("the greatest is kept", 99, x::forestWeight);
            Checks.due("the least", 1, () -> x.addEdge(0, 1, 1));
            Checks.due("the least is kept", 1, x::forestWeight);
        });
        document.refuses(4, UNSUPPORTED, "if both vertices are the same", () -> {
            Thicket x = Graphs.line();
            for (int vertex : new int[] {0, 7, 19}) {
                Checks.throwsDue("vertex " + vertex, UNSUPPORTED,
                        () -> x.addEdge(vertex, vertex, 5));
            }
            Checks.throwsDue("before the count", UNSUPPORTED,
                    () -> Graphs.bundle(60).addEdge(1, 1, 5));
            Checks.due("no number was taken", 19, () -> x.addEdge(19, 0, 5));
        });
    }

    private static void addedEdges() {
        document.refuses(4, STATE, "if 60 edges have been added", () -> {
            Thicket x = Graphs.bundle(59);
            Checks.due("the last one", 59, () -> x.addEdge(1, 0, 60));
            Checks.throwsDue("one more", STATE, () -> x.addEdge(0, 1, 1));
            Checks.due("60 as before", 60, x::edges);
            Checks.due("the forest is as before", 'f', () -> x.state(0));
            Checks.due("the weight is as before", 1, x::forestWeight);
            Checks.due("the last one is as before", 60, () -> x.weight(59));
            for (int edge = 0; edge < 60; edge++) {
                x.removeEdge(edge);
            }
            Checks.throwsDue("one more when all are removed", STATE, () -> x.addEdge(0, 1, 1));
            Checks.due("two trees as before", 2, x::trees);
        });
        document.says("Promise 4", "Returns the number of the edge.", () -> {
            Thicket x = Graphs.bundle(3);
            x.removeEdge(2);
            x.removeEdge(0);
            Checks.due("removed ones keep their numbers", 3, () -> x.addEdge(1, 0, 1));
            Checks.due("the first one stays removed", 'r', () -> x.state(0));
            Checks.due("the new one", 'f', () -> x.state(3));
        });
    }

    private static void removeEdge() {
        document.says("Promise 5", "or -1 if there is none.", () -> {
            Thicket x = Graphs.bundle(3);
            Checks.due("an edge outside the forest", -1, () -> x.removeEdge(2));
            Checks.due("the next one takes its place", 1, () -> x.removeEdge(0));
            Checks.due("the last of all", -1, () -> x.removeEdge(1));
            Checks.due("no edge is left", 0, () -> x.parallel(0, 1));
            Checks.due("no weight is left", 0, x::forestWeight);
            Checks.due("two trees are left", 2, x::trees);
            Thicket turned = Graphs.withVertices(2);
            turned.addEdge(0, 1, 9);
            turned.addEdge(0, 1, 5);
            Checks.due("edge 0 takes the place", 0, () -> turned.removeEdge(1));
        });
        document.refuses(5, INDEX, NO_EDGE, () -> Refusals.noSuchEdge(Thicket::removeEdge));
        document.refuses(5, STATE, "if it was removed already", () -> {
            Thicket x = Graphs.bundle(60);
            x.removeEdge(59);
            Checks.throwsDue("outside the forest", STATE, () -> x.removeEdge(59));
            x.removeEdge(0);
            Checks.throwsDue("of the forest", STATE, () -> x.removeEdge(0));
            Checks.throwsDue("a third time", STATE, () -> x.removeEdge(0));
            Checks.due("the forest is as before", 2, x::forestWeight);
            Checks.due("the others are as before", 58, () -> x.parallel(0, 1));
        });
    }

    private static void setWeight() {
        document.refuses(6, INDEX, NO_EDGE, () -> {
            Refusals.noSuchEdge((x, edge) -> x.setWeight(edge, 5));
            Checks.throwsDue("before the weight", INDEX, () -> Graphs.bush().setWeight(7, 0));
            Checks.throwsDue("before the weight, below 0", INDEX,
                    () -> Graphs.bush().setWeight(-1, 100));
        });
        document.refuses(6, ARGUMENT, "if the weight is not between 1 and 99", () -> {
            Thicket x = Graphs.bundle(2);
            for (int weight : WRONG_WEIGHTS) {
                Checks.throwsDue("weight " + weight, ARGUMENT, () -> x.setWeight(0, weight));
                Checks.throwsDue("outside, " + weight, ARGUMENT, () -> x.setWeight(1, weight));
            }
            x.removeEdge(1);
            Checks.throwsDue("before the state", ARGUMENT, () -> x.setWeight(1, 0));
            Checks.throwsDue("before the state, too great", ARGUMENT, () -> x.setWeight(1, 100));
            Checks.due("nothing was set", 1, () -> x.setWeight(0, 99));
            Checks.due("the greatest was set", 99, () -> x.setWeight(0, 1));
            Checks.due("the least was set", 1, () -> x.weight(0));
        });
        document.refuses(6, STATE, "if it was removed", () -> {
            Thicket x = Graphs.bundle(2);
            x.removeEdge(0);
            Checks.throwsDue("removed", STATE, () -> x.setWeight(0, 50));
            Checks.throwsDue("the same weight", STATE, () -> x.setWeight(0, 1));
            Checks.due("its weight is as before", 1, () -> x.weight(0));
            Checks.due("its state is as before", 'r', () -> x.state(0));
            Checks.due("the forest is as before", 2, x::forestWeight);
            Checks.due("one that is present", 2, () -> x.setWeight(1, 3));
        });
    }

    private static void changedWeights() {
        document.says("Promise 6", "Returns the weight before.", () -> {
            Thicket x = Graphs.bundle(2);
            Checks.due("the same weight", 1, () -> x.setWeight(0, 1));
            Checks.due("as heavy as the other, by number", 1, () -> x.setWeight(0, 2));
            Checks.due("the lower number stays", 'f', () -> x.state(0));
            Checks.due("one heavier", 2, () -> x.setWeight(0, 3));
            Checks.due("goes out", 'o', () -> x.state(0));
            Checks.due("the other comes in", 'f', () -> x.state(1));
            Checks.due("as heavy again", 3, () -> x.setWeight(0, 2));
            Checks.due("comes in by its number", 'f', () -> x.state(0));
            Checks.due("the other goes out", 'o', () -> x.state(1));
            Checks.due("the other as heavy again", 2, () -> x.setWeight(1, 2));
            Checks.due("stays out by its number", 'o', () -> x.state(1));
            Checks.due("the other, one lighter", 2, () -> x.setWeight(1, 1));
            Checks.due("comes in by its weight", 'f', () -> x.state(1));
            Checks.due("as it is kept", 1, x::forestWeight);
            Checks.due("found anew", 1, x::forestWeightAnew);
        });
    }

    private static void addOnPath() {
        document.says("Promise 7", "values may become greater than 99 or less than -99", () -> {
            Thicket x = new Thicket();
            x.addVertex(99);
            x.addVertex(-99);
            x.addOnPath(0, 0, 1);
            x.addOnPath(1, 1, -1);
            Checks.due("one beyond the greatest", 100, () -> x.value(0));
            Checks.due("one beyond the least", -100, () -> x.value(1));
            for (int time = 0; time < 400; time++) {
                x.addOnPath(time % 2, time % 2, time % 2 == 0 ? 9 : -9);
            }
            Checks.due("far beyond the greatest", 1900, () -> x.pathSum(0, 0));
            Checks.due("far beyond the least", -1900, () -> x.pathSum(1, 1));
        });
        document.says("Promise 7", "Returns the number of vertices on the path.", () -> {
            Checks.due("to itself", 1, () -> Graphs.bush().addOnPath(8, 8, 1));
            Checks.due("the longest", 20, () -> Graphs.line().addOnPath(19, 0, 1));
            Checks.due("no amount", 2, () -> Graphs.bush().addOnPath(0, 1, 0));
        });
        document.refuses(7, INDEX, NO_VERTEX_FOR_EITHER, () -> {
            Refusals.noSuchVertexForEither((x, one, other) -> x.addOnPath(one, other, 1));
            Checks.throwsDue("before the amount", INDEX, () -> Graphs.bush().addOnPath(0, 9, 10));
            Checks.throwsDue("before the amount, turned", INDEX,
                    () -> Graphs.bush().addOnPath(-1, 0, -10));
        });
        document.refuses(7, ARGUMENT, "if the amount is not between -9 and 9", () -> {
            Thicket x = Graphs.bush();
            for (int amount : WRONG_AMOUNTS) {
                Checks.throwsDue("amount " + amount, ARGUMENT, () -> x.addOnPath(0, 2, amount));
                Checks.throwsDue("before the trees, " + amount, ARGUMENT,
                        () -> x.addOnPath(0, 8, amount));
            }
            Checks.due("nothing was added", 4, () -> x.pathSum(0, 2));
            Checks.due("the least", 2, () -> x.addOnPath(0, 2, -9));
            Checks.due("the least was added to each", -14, () -> x.pathSum(0, 2));
            Checks.due("the greatest", 2, () -> x.addOnPath(2, 0, 9));
            Checks.due("the greatest was added to each", 4, () -> x.pathSum(0, 2));
        });
        document.refuses(7, ABSENT, "if they are in different trees", () -> {
            Refusals.differentTrees((x, one, other) -> x.addOnPath(one, other, 1));
            Thicket x = Graphs.bush();
            Checks.throwsDue("another tree", ABSENT, () -> x.addOnPath(0, 8, 9));
            Checks.due("nothing was added here", 1, () -> x.value(0));
            Checks.due("nothing was added there", 9, () -> x.value(8));
        });
    }

    private static void counts() {
        document.says("Promise 8", "Returns the number of vertices.", () -> {
            for (int count : new int[] {0, 1, 19, 20}) {
                Checks.due("of " + count, count, () -> Graphs.withVertices(count).vertices());
            }
        });
        document.says("Promise 9", "Returns the number of edges, removed ones included.", () -> {
            for (int count : new int[] {0, 1, 59, 60}) {
                Thicket x = Graphs.bundle(count);
                Checks.due("of " + count, count, x::edges);
                for (int edge = 0; edge < count; edge++) {
                    x.removeEdge(edge);
                }
                Checks.due("all removed of " + count, count, x::edges);
            }
        });
    }

    private static void value() {
        document.refuses(10, INDEX, NO_VERTEX, () -> {
            Refusals.noSuchVertex(Thicket::value);
            Checks.due("the first", 1, () -> Graphs.line().value(0));
            Checks.due("the last", 20, () -> Graphs.line().value(19));
        });
    }

    private static void weight() {
        document.says("Promise 11", "be it removed or not", () -> {
            Thicket x = Graphs.bundle(60);
            Checks.due("the last, outside", 60, () -> x.weight(59));
            x.removeEdge(59);
            Checks.due("removed from outside", 60, () -> x.weight(59));
            x.setWeight(0, 2);
            x.removeEdge(0);
            Checks.due("removed from the forest", 2, () -> x.weight(0));
        });
        document.refuses(11, INDEX, NO_EDGE, () -> Refusals.noSuchEdge(Thicket::weight));
    }

    private static void state() {
        document.says("Promise 12", "'f' if it belongs to the forest, 'o' if it is present and"
                + " does not, 'r' if it was removed.", () -> {
            Thicket x = Graphs.bundle(2);
            Checks.due("belongs to the forest", 'f', () -> x.state(0));
            Checks.due("present and does not", 'o', () -> x.state(1));
            x.removeEdge(1);
            Checks.due("removed from outside", 'r', () -> x.state(1));
            x.removeEdge(0);
            Checks.due("removed from the forest", 'r', () -> x.state(0));
        });
        document.refuses(12, INDEX, NO_EDGE, () -> Refusals.noSuchEdge(Thicket::state));
    }

    private static void otherEnd() {
        document.says("Promise 13", "be it removed or not", () -> {
            Thicket x = Graphs.line();
            x.removeEdge(18);
            Checks.due("removed, from its first", 19, () -> x.otherEnd(18, 18));
            Checks.due("removed, from its second", 18, () -> x.otherEnd(18, 19));
            Checks.due("not removed", 0, () -> x.otherEnd(0, 1));
        });
        document.refuses(13, INDEX, "if there is no such edge or vertex", () -> {
            Refusals.noSuchEdge((x, edge) -> x.otherEnd(edge, 0));
            Refusals.noSuchVertex((x, vertex) -> x.otherEnd(0, vertex));
            Checks.throwsDue("neither is there", INDEX, () -> Graphs.bush().otherEnd(7, 9));
            Checks.throwsDue("before what the edge joins", INDEX,
                    () -> Graphs.bush().otherEnd(0, -1));
        });
        document.refuses(13, ABSENT, "if the edge does not join this vertex", () -> {
            Thicket x = Graphs.line();
            Checks.throwsDue("right beside its first", ABSENT, () -> x.otherEnd(9, 8));
            Checks.throwsDue("right beside its second", ABSENT, () -> x.otherEnd(9, 11));
            Checks.throwsDue("vertex 0", ABSENT, () -> x.otherEnd(18, 0));
            Checks.throwsDue("vertex 19", ABSENT, () -> x.otherEnd(0, 19));
            x.removeEdge(9);
            Checks.throwsDue("removed", ABSENT, () -> x.otherEnd(9, 8));
        });
    }

    private static void parallel() {
        document.says("Promise 14", "Returns the number of present edges between two vertices.",
                () -> {
            Checks.due("none", 0, () -> Graphs.bundle(0).parallel(0, 1));
            Checks.due("of a vertex with itself", 0, () -> Graphs.bundle(3).parallel(1, 1));
            Thicket x = Graphs.bundle(60);
            Checks.due("the most", 60, () -> x.parallel(0, 1));
            Checks.due("the most, turned", 60, () -> x.parallel(1, 0));
            x.removeEdge(0);
            x.removeEdge(59);
            Checks.due("the removed ones are not present", 58, () -> x.parallel(0, 1));
        });
        document.refuses(14, INDEX, NO_VERTEX_FOR_EITHER,
                () -> Refusals.noSuchVertexForEither(Thicket::parallel));
    }

    private static void lightest() {
        document.says("Promise 15", "Returns the first one, in the order of the edges", () -> {
            Thicket x = Graphs.withVertices(2);
            for (int edge = 0; edge < 60; edge++) {
                x.addEdge(edge % 2, 1 - edge % 2, 99);
            }
            Checks.due("of as many as there may be", 0, () -> x.lightest(0, 1));
            x.setWeight(59, 98);
            Checks.due("the last one", 59, () -> x.lightest(1, 0));
            x.removeEdge(59);
            x.removeEdge(0);
            Checks.due("of those that are present", 1, () -> x.lightest(0, 1));
        });
        document.refuses(15, INDEX, NO_VERTEX_FOR_EITHER,
                () -> Refusals.noSuchVertexForEither(Thicket::lightest));
        document.refuses(15, ABSENT, "if there is none", () -> {
            Thicket x = Graphs.row(3);
            Checks.throwsDue("none was added", ABSENT, () -> x.lightest(0, 2));
            Checks.throwsDue("of a vertex with itself", ABSENT, () -> x.lightest(1, 1));
            Checks.due("one is present", 0, () -> x.lightest(1, 0));
            x.removeEdge(0);
            Checks.throwsDue("all were removed", ABSENT, () -> x.lightest(1, 0));
        });
    }
}
