/** Graphs to ask, each made anew. */
final class Graphs {
    private Graphs() {
    }

    /** The values 1, 2, 3 and so on. */
    static Thicket withVertices(int count) {
        Thicket x = new Thicket();
        for (int vertex = 0; vertex < count; vertex++) {
            x.addVertex(vertex + 1);
        }
        return x;
    }

    /**
     * Values 1 to 9. Edges 0: 0-1, 1: 0-2, 2: 1-3, 3: 1-4, 4: 2-5, 5: 2-6, 6: 5-7, all of weight 5
     * but edge 3 of weight 9; vertex 8 stands alone. Rooted at 0:
     * <pre>
     *        0
     *      1   2
     *     3 4 5 6
     *         7
     * </pre>
     */
    static Thicket bush() {
        Thicket x = withVertices(9);
        x.addEdge(0, 1, 5);
        x.addEdge(0, 2, 5);
        x.addEdge(1, 3, 5);
        x.addEdge(1, 4, 9);
        x.addEdge(2, 5, 5);
        x.addEdge(2, 6, 5);
        x.addEdge(5, 7, 5);
        return x;
    }

    /** The vertices in a row, the values 1, 2 and so on, edge n from n to n + 1, weight n + 1. */
    static Thicket row(int count) {
        Thicket x = withVertices(count);
        for (int vertex = 0; vertex < count - 1; vertex++) {
            x.addEdge(vertex, vertex + 1, vertex + 1);
        }
        return x;
    }

    /** The longest row: vertices 0 to 19, edges 0 to 18. */
    static Thicket line() {
        return row(20);
    }

    /** Vertex 19 is joined with each of the others: edge n from 19 to n, all of weight 1. */
    static Thicket star() {
        Thicket x = withVertices(20);
        for (int vertex = 0; vertex < 19; vertex++) {
            x.addEdge(19, vertex, 1);
        }
        return x;
    }

    /** Two vertices and edges between them alone, weights 1, 2, 3 and so on. */
    static Thicket bundle(int edges) {
        Thicket x = withVertices(2);
        for (int edge = 0; edge < edges; edge++) {
            x.addEdge(0, 1, edge + 1);
        }
        return x;
    }
}
