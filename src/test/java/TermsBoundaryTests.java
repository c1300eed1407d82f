import java.io.IOException;

/** The terms of the document: each sentence that draws a boundary, on both of its sides. */
public final class TermsBoundaryTests {
    private static final String TERMS = "Terms";

    private static Sentences document;

    public static void main(String[] args) throws IOException {
        document = new Sentences(args[0]);
        lengthOfUse();
        numbersOfVertices();
        numbersOfEdges();
        edgesBetweenVertices();
        orderOfEdges();
        forest();
        forestOfManyEdges();
        trees();
        paths();
        rootedTrees();
        lowestCommonAncestor();
        heavyChildren();
        heavyPaths();
        Checks.finish("TermsBoundaryTests");
    }

    private static void lengthOfUse() {
        document.says("What it is", "An object is used for at most 512 calls after it has been"
                + " made", () -> {
            Thicket x = Graphs.line();
            int calls = 39;
            for (; calls < 511; calls++) {
                int distance = calls % 20;
                Checks.due("call " + calls, 19 - distance, () -> x.ancestor(0, 19, distance));
            }
            Checks.due("the last call", 190, x::forestWeight);
            Thicket changed = Graphs.bundle(59);
            for (calls = 61; calls < 511; calls++) {
                int weight = 1 + calls % 2 * 98;
                Checks.due("change " + calls, calls == 61 ? 1 : 100 - weight,
                        () -> changed.setWeight(0, weight));
            }
            Checks.due("the last call, of the changed one", 1, changed::forestWeight);
        });
    }

    private static void numbersOfVertices() {
        document.says(TERMS, "At most 20 vertices have the numbers 0 to n - 1 in the order in which"
                + " they were added", () -> {
            Thicket x = new Thicket();
            for (int vertex = 0; vertex < 20; vertex++) {
                int value = 50 - vertex;
                Checks.due("one more", vertex, () -> x.addVertex(value));
                Checks.throwsDue("a wrong one between", Refusals.ARGUMENT, () -> x.addVertex(100));
            }
            Checks.throwsDue("beyond 20", Refusals.STATE, () -> x.addVertex(0));
            for (int vertex = 0; vertex < 20; vertex++) {
                int at = vertex;
                Checks.due("value of " + at, 50 - at, () -> x.value(at));
            }
        });
    }

    private static void numbersOfEdges() {
        document.says(TERMS, "At most 60 edges, removed ones included, have the numbers 0 to n - 1"
                + " in the order in which they were added", () -> {
            Thicket x = Graphs.withVertices(4);
            for (int edge = 0; edge < 60; edge++) {
                int at = edge;
                Checks.due("one more", at, () -> x.addEdge(at % 4, (at + 1) % 4, 99 - at));
                if (at % 2 == 1) {
                    x.removeEdge(at);
                }
                Checks.throwsDue("a wrong one between", Refusals.UNSUPPORTED,
                        () -> x.addEdge(1, 1, 5));
            }
            Checks.throwsDue("beyond 60", Refusals.STATE, () -> x.addEdge(0, 1, 1));
            for (int edge = 0; edge < 60; edge++) {
                int at = edge;
                Checks.due("weight of " + at, 99 - at, () -> x.weight(at));
                Checks.due("ends of " + at, (at + 1) % 4, () -> x.otherEnd(at, at % 4));
            }
            Checks.due("the first", 'o', () -> x.state(0));
            Checks.due("the last", 'r', () -> x.state(59));
        });
    }

    private static void edgesBetweenVertices() {
        document.says(TERMS, "joins two different vertices and has a weight from 1 to 99", () -> {
            Thicket x = Graphs.withVertices(2);
            Checks.throwsDue("the same vertex", Refusals.UNSUPPORTED, () -> x.addEdge(0, 0, 1));
            Checks.throwsDue("weight 0", Refusals.ARGUMENT, () -> x.addEdge(0, 1, 0));
            Checks.throwsDue("weight 100", Refusals.ARGUMENT, () -> x.addEdge(0, 1, 100));
            Checks.due("weight 1", 0, () -> x.addEdge(0, 1, 1));
            Checks.due("weight 99", 1, () -> x.addEdge(0, 1, 99));
        });
        document.says(TERMS, "There may be several edges between the same vertices.", () -> {
            Thicket x = Graphs.bundle(60);
            Checks.due("all of them", 60, () -> x.parallel(0, 1));
            Checks.due("one belongs to the forest", 'f', () -> x.state(0));
            for (int edge = 1; edge < 60; edge++) {
                int at = edge;
                Checks.due("the others do not, " + at, 'o', () -> x.state(at));
            }
        });
        document.says(TERMS, "An edge is present until it is removed.", () -> {
            Thicket x = Graphs.bundle(2);
            Checks.due("outside the forest too", 2, () -> x.parallel(0, 1));
            x.removeEdge(0);
            Checks.due("the other one yet", 1, () -> x.parallel(0, 1));
            Checks.due("and comes into the forest", 'f', () -> x.state(1));
            x.removeEdge(1);
            Checks.due("none", 0, () -> x.parallel(0, 1));
            Checks.due("vertices apart", false, () -> x.isConnectedByWalk(0, 1));
        });
    }

    private static void orderOfEdges() {
        document.says(TERMS, "Edges are ordered by their weight, edges with the same weight by"
                + " their number.", () -> {
            Thicket x = Graphs.withVertices(2);
            x.addEdge(0, 1, 50);
            x.addEdge(0, 1, 50);
            x.addEdge(0, 1, 49);
            x.addEdge(0, 1, 51);
            Checks.due("one lighter", 2, () -> x.lightest(0, 1));
            Checks.due("the lower number next", 0, () -> x.removeEdge(2));
            Checks.due("the higher number next", 1, () -> x.replacement(0));
            Checks.due("found anew", 1, () -> x.replacementAnew(0));
            Checks.due("the higher number comes in", 1, () -> x.removeEdge(0));
            Checks.due("one heavier last", 3, () -> x.removeEdge(1));
            Thicket row = Graphs.row(4);
            row.setWeight(0, 3);
            Checks.due("last by number", 2, () -> row.last(0, 3));
            Checks.due("last by number, by a walk", 2, () -> row.lastByWalk(0, 3));
            Checks.due("last by number, without it", 0, () -> row.last(0, 2));
        });
    }

    private static void forest() {
        document.says(TERMS, "each present edge belongs to the forest if its vertices are not"
                + " connected by those edges of the forest that come before it", () -> {
            Thicket x = Graphs.line();
            x.addEdge(19, 0, 20);
            for (int heaviest = 0; heaviest < 20; heaviest++) {
                int at = heaviest;
                x.setWeight(at, 99);
                for (int edge = 0; edge < 20; edge++) {
                    int asked = edge;
                    Checks.due("ring, heaviest " + at + ", edge " + asked, asked == at ? 'o' : 'f',
                            () -> x.state(asked));
                }
                x.setWeight(at, 1);
            }
            Checks.due("all as heavy: the last one is outside", 'o', () -> x.state(19));
            Checks.due("the last but one is not", 'f', () -> x.state(18));
        });
    }

    private static void forestOfManyEdges() {
        document.says(TERMS, "Taken in this order", () -> {
            Thicket x = Graphs.withVertices(3);
            x.addEdge(0, 1, 99);
            x.addEdge(1, 2, 99);
            Checks.due("two of the heaviest", 198, x::forestWeight);
            x.addEdge(2, 0, 99);
            Checks.due("a third as heavy comes too late", 'o', () -> x.state(2));
            x.setWeight(2, 98);
            Checks.due("one lighter comes in", 'f', () -> x.state(2));
            Checks.due("the last of the others goes out", 'o', () -> x.state(1));
            x.setWeight(0, 98);
            x.setWeight(1, 98);
            Checks.due("all as heavy again", 'o', () -> x.state(2));
            Checks.due("the second is back", 'f', () -> x.state(1));
            Checks.due("as it is kept", 196, x::forestWeight);
            Checks.due("found anew", 196, x::forestWeightAnew);
        });
    }

    private static void trees() {
        document.says(TERMS, "a vertex without an edge is a tree of its own", () -> {
            Thicket x = Graphs.row(2);
            x.addVertex(5);
            Checks.due("never an edge", 2, x::trees);
            Checks.due("its diameter", 0, () -> x.diameter(2));
            Checks.due("its diameter by trying", 0, () -> x.diameterByTrying(2));
            Checks.due("its subtree", 1, () -> x.subtreeSize(2, 2));
            Checks.due("its heavy paths", 1, () -> x.heavyPaths(2));
            x.removeEdge(0);
            Checks.due("no edge any more", 3, x::trees);
            Checks.due("connected with itself", true, () -> x.isConnected(0, 0));
            Checks.due("connected with itself by a walk", true, () -> x.isConnectedByWalk(0, 0));
            Checks.due("and with no other", false, () -> x.isConnected(0, 1));
        });
    }

    private static void paths() {
        document.says(TERMS, "and of all vertices on this way, both included", () -> {
            Thicket x = Graphs.line();
            Checks.due("number", 20, () -> x.pathVertices(0, 19));
            Checks.due("the first", 0, () -> x.pathVertex(0, 19, 0));
            Checks.due("the other one", 19, () -> x.pathVertex(0, 19, 19));
            Checks.due("two neighbours", 3, () -> x.pathSum(0, 1));
        });
        document.says(TERMS, "the path from a vertex to itself consists of this vertex", () -> {
            for (int vertex : new int[] {0, 4, 8}) {
                Thicket x = Graphs.bush();
                Checks.due("number at " + vertex, 1, () -> x.pathVertices(vertex, vertex));
                Checks.due("vertex at " + vertex, vertex, () -> x.pathVertex(vertex, vertex, 0));
                Checks.due("sum at " + vertex, vertex + 1, () -> x.pathSum(vertex, vertex));
                Checks.due("sum by heavy paths at " + vertex, vertex + 1,
                        () -> x.pathSumByHeavyPaths(vertex, vertex));
                Checks.due("sum by walk at " + vertex, vertex + 1,
                        () -> x.pathSumByWalk(vertex, vertex));
                Checks.due("mean at " + vertex, vertex + 1f, () -> x.mean(vertex, vertex));
                x.addOnPath(vertex, vertex, 9);
                Checks.due("added once at " + vertex, vertex + 10, () -> x.value(vertex));
            }
        });
    }

    private static void rootedTrees() {
        document.says(TERMS, "The ancestors of a vertex are the vertices on its path to the root,"
                + " itself included", () -> {
            Thicket x = Graphs.line();
            Checks.due("itself", 7, () -> x.ancestor(0, 7, 0));
            Checks.due("itself by walk", 7, () -> x.ancestorByWalk(0, 7, 0));
            Checks.due("the root", 0, () -> x.ancestor(0, 7, 7));
            Checks.due("the root by walk", 0, () -> x.ancestorByWalk(0, 7, 7));
        });
        document.says(TERMS, "its depth is the number of edges of this path", () -> {
            Checks.due("of the root", 0, () -> Graphs.line().depth(19, 19));
            Checks.due("of the deepest", 19, () -> Graphs.line().depth(19, 0));
        });
        document.says(TERMS, "its subtree consists of the vertices of which it is an ancestor",
                () -> {
            Thicket x = Graphs.bush();
            Checks.due("of a leaf, itself", 1, () -> x.subtreeSize(0, 7));
            Checks.due("of the root, the whole tree", 8, () -> x.subtreeSize(7, 7));
            Checks.due("nothing of another tree", 1, () -> x.subtreeSize(8, 8));
            Checks.due("value of a leaf", 8, () -> x.subtreeSum(0, 7));
        });
        document.says(TERMS, "The parent of another vertex of the tree is the next vertex on its"
                + " path to the root", () -> {
            Checks.due("one edge", 0, () -> Graphs.row(2).parent(0, 1));
            Checks.due("one edge, turned", 1, () -> Graphs.row(2).parent(1, 0));
        });
    }

    private static void lowestCommonAncestor() {
        document.says(TERMS, "the one among their common ancestors with the greatest depth", () -> {
            Thicket x = Graphs.bush();
            Checks.due("right below the root", 2, () -> x.common(0, 7, 6));
            Checks.due("right below the root, by walk", 2, () -> x.commonByWalk(0, 7, 6));
            Checks.due("the root alone", 0, () -> x.common(0, 7, 3));
            Checks.due("the root alone, by walk", 0, () -> x.commonByWalk(0, 7, 3));
            Checks.due("itself", 7, () -> x.common(0, 7, 7));
            Checks.due("itself, by walk", 7, () -> x.commonByWalk(0, 7, 7));
        });
    }

    private static void heavyChildren() {
        document.says(TERMS, "The heavy child of a vertex is the child with the most vertices in"
                + " its subtree, of several the one with the lowest number.", () -> {
            Thicket x = Graphs.withVertices(7);
            x.addEdge(3, 6, 1);
            x.addEdge(3, 0, 1);
            x.addEdge(3, 5, 1);
            Checks.due("of three leaves", 0, () -> x.heavyChild(3, 3));
            x.addEdge(6, 1, 1);
            Checks.due("one vertex more, the highest", 6, () -> x.heavyChild(3, 3));
            x.addEdge(5, 2, 1);
            Checks.due("as many, in the middle", 5, () -> x.heavyChild(3, 3));
            x.addEdge(0, 4, 1);
            Checks.due("all as many", 0, () -> x.heavyChild(3, 3));
        });
    }

    private static void heavyPaths() {
        document.says(TERMS, "every other edge of the rooted tree is light", () -> {
            Thicket x = Graphs.star();
            Checks.due("the heavy one", 0, () -> x.lightEdges(19, 0));
            for (int vertex = 1; vertex < 19; vertex++) {
                int at = vertex;
                Checks.due("light to " + at, 1, () -> x.lightEdges(19, at));
            }
        });
        document.says(TERMS, "the head of a heavy path is its vertex with the least depth", () -> {
            Checks.due("a path of all", 0, () -> Graphs.line().head(0, 19));
            Checks.due("a path of one", 18, () -> Graphs.star().head(19, 18));
            Checks.due("a path of two, its upper", 19, () -> Graphs.star().head(19, 19));
            Checks.due("a path of two, its lower", 19, () -> Graphs.star().head(19, 0));
        });
        document.says(TERMS, "the parts into which the tree falls when all light edges are left"
                + " out", () -> {
            Checks.due("no light edge", 1, () -> Graphs.line().heavyPaths(0));
            Checks.due("one light edge", 2, () -> Graphs.line().heavyPaths(1));
            Checks.due("18 light edges", 19, () -> Graphs.star().heavyPaths(19));
            Checks.due("no edge", 1, () -> Graphs.withVertices(20).heavyPaths(19));
        });
    }
}
