import java.util.Arrays;
import java.util.NoSuchElementException;

/**
 * A graph with weighted edges whose minimum spanning forest is kept up to date, with the values on
 * the paths of the forest, and with the trees of the forest, rooted at any vertex.
 */
public final class Thicket {
    private static final int MOST_VERTICES = 20;
    private static final int MOST_EDGES = 60;
    private static final int GREATEST_VALUE = 99;
    private static final int LEAST_WEIGHT = 1;
    private static final int GREATEST_WEIGHT = 99;
    private static final int GREATEST_AMOUNT = 9;
    /** Jumps of 1, 2, 4, 8 and 16 edges: together more than the 19 edges of the longest path. */
    private static final int JUMP_LEVELS = 5;
    /** Stands for no vertex and for no edge; no table is ever read at it. */
    private static final int NONE = -1;

    private final Graph graph;
    private final Forest forest;
    private final RootedTree tree;
    private final ForestKeeper keeper;
    private final ForestAnew anew;
    private final GraphWalk graphWalk;
    private final HeavyPaths heavy;
    private final Jumps jumps;

    public Thicket() {
        graph = new Graph();
        forest = new Forest(graph);
        tree = new RootedTree(graph, forest);
        keeper = new ForestKeeper(graph, forest, tree);
        anew = new ForestAnew(graph);
        graphWalk = new GraphWalk(graph);
        heavy = new HeavyPaths(graph, tree);
        jumps = new Jumps(graph, tree);
    }

    // ---- graph

    public int addVertex(int value) throws IllegalArgumentException, IllegalStateException {
        requireValue(value);
        if (graph.vertexCount() >= MOST_VERTICES) {
            throw new IllegalStateException("there are 20 vertices");
        }
        return graph.appendVertex(value);
    }

    public int setValue(int vertex, int value)
            throws IndexOutOfBoundsException, IllegalArgumentException {
        requireVertex(vertex);
        requireValue(value);
        int before = graph.valueOf(vertex);
        graph.putValue(vertex, value);
        return before;
    }

    public int addEdge(int one, int other, int weight)
            throws IndexOutOfBoundsException, IllegalArgumentException,
            UnsupportedOperationException, IllegalStateException {
        requireVertices(one, other);
        requireWeight(weight);
        requireDifferent(one, other);
        if (graph.edgeCount() >= MOST_EDGES) {
            throw new IllegalStateException("60 edges have been added");
        }
        int edge = graph.appendEdge(one, other, weight);
        keeper.admit(edge);
        return edge;
    }

    public int removeEdge(int edge) throws IndexOutOfBoundsException, IllegalStateException {
        requireEdge(edge);
        requirePresent(edge);
        return keeper.release(edge);
    }

    public int setWeight(int edge, int weight)
            throws IndexOutOfBoundsException, IllegalArgumentException, IllegalStateException {
        requireEdge(edge);
        requireWeight(weight);
        requirePresent(edge);
        int before = graph.weightOf(edge);
        keeper.reweigh(edge, weight);
        return before;
    }

    public int addOnPath(int one, int other, int amount)
            throws IndexOutOfBoundsException, IllegalArgumentException, NoSuchElementException {
        requireVertices(one, other);
        if (!isBetween(amount, -GREATEST_AMOUNT, GREATEST_AMOUNT)) {
            throw new IllegalArgumentException("the amount is not between -9 and 9");
        }
        plantHolding(other, one);
        tree.addOnWayToRoot(one, amount);
        return tree.depthOf(one) + 1;
    }

    public int vertices() {
        return graph.vertexCount();
    }

    public int edges() {
        return graph.edgeCount();
    }

    public int value(int vertex) throws IndexOutOfBoundsException {
        requireVertex(vertex);
        return graph.valueOf(vertex);
    }

    public int weight(int edge) throws IndexOutOfBoundsException {
        requireEdge(edge);
        return graph.weightOf(edge);
    }

    public char state(int edge) throws IndexOutOfBoundsException {
        requireEdge(edge);
        if (!graph.isPresent(edge)) {
            return 'r';
        }
        return forest.holds(edge) ? 'f' : 'o';
    }

    public int otherEnd(int edge, int vertex)
            throws IndexOutOfBoundsException, NoSuchElementException {
        requireEdge(edge);
        requireVertex(vertex);
        int across = graph.acrossFrom(edge, vertex);
        if (across == NONE) {
            throw new NoSuchElementException("the edge does not join this vertex");
        }
        return across;
    }

    public int parallel(int one, int other) throws IndexOutOfBoundsException {
        requireVertices(one, other);
        return graph.countBetween(one, other);
    }

    public int lightest(int one, int other)
            throws IndexOutOfBoundsException, NoSuchElementException {
        requireVertices(one, other);
        int first = graph.firstBetween(one, other);
        if (first == NONE) {
            throw new NoSuchElementException("no present edge joins these vertices");
        }
        return first;
    }

    // ---- forest

    public int forestWeight() {
        return forest.weightSum();
    }

    public int forestWeightAnew() {
        anew.build(NONE);
        return anew.weightSum();
    }

    public int trees() {
        return graph.vertexCount() - forest.edgeSum();
    }

    public int degree(int vertex) throws IndexOutOfBoundsException {
        requireVertex(vertex);
        return forest.countNeighbours(vertex);
    }

    public int neighbour(int vertex, int index)
            throws IndexOutOfBoundsException, NoSuchElementException {
        requireVertex(vertex);
        int found = forest.neighbourAt(vertex, index);
        if (found == NONE) {
            throw new NoSuchElementException("the vertex has no such neighbour");
        }
        return found;
    }

    public boolean isConnected(int one, int other) throws IndexOutOfBoundsException {
        requireVertices(one, other);
        tree.plant(one, NONE);
        return tree.holds(other);
    }

    public boolean isConnectedByWalk(int one, int other) throws IndexOutOfBoundsException {
        requireVertices(one, other);
        return graphWalk.leadsTo(one, other);
    }

    public int replacement(int edge)
            throws IndexOutOfBoundsException, IllegalStateException, NoSuchElementException {
        requireEdge(edge);
        requireInForest(edge);
        return requireReplacement(keeper.findReplacement(edge));
    }

    public int replacementAnew(int edge)
            throws IndexOutOfBoundsException, IllegalStateException, NoSuchElementException {
        requireEdge(edge);
        requireInForest(edge);
        anew.build(edge);
        return requireReplacement(anew.firstChosenOutside(forest));
    }

    // ---- paths

    public int pathVertices(int one, int other)
            throws IndexOutOfBoundsException, NoSuchElementException {
        requireVertices(one, other);
        plantHolding(one, other);
        return tree.depthOf(other) + 1;
    }

    public int pathVertex(int one, int other, int index)
            throws IndexOutOfBoundsException, NoSuchElementException, IllegalArgumentException {
        requireVertices(one, other);
        plantHolding(other, one);
        if (!isBetween(index, 0, tree.depthOf(one))) {
            throw new IllegalArgumentException("there is no such vertex on the path");
        }
        return tree.climb(one, index);
    }

    public int pathSum(int one, int other)
            throws IndexOutOfBoundsException, NoSuchElementException {
        requireVertices(one, other);
        plantHolding(one, other);
        return tree.sumFromRoot(other);
    }

    public int pathSumByHeavyPaths(int one, int other)
            throws IndexOutOfBoundsException, NoSuchElementException {
        requireVertices(one, other);
        plantHolding(one, other);
        heavy.build();
        return heavy.sumToRoot(other);
    }

    public int pathSumByWalk(int one, int other)
            throws IndexOutOfBoundsException, NoSuchElementException {
        requireVertices(one, other);
        plantHolding(other, one);
        return tree.sumByClimbing(one);
    }

    public int last(int one, int other)
            throws IndexOutOfBoundsException, NoSuchElementException,
            UnsupportedOperationException {
        requireVertices(one, other);
        plantHolding(one, other);
        requireDifferent(one, other);
        return tree.lastFromRoot(other);
    }

    public int lastByWalk(int one, int other)
            throws IndexOutOfBoundsException, NoSuchElementException,
            UnsupportedOperationException {
        requireVertices(one, other);
        plantHolding(other, one);
        requireDifferent(one, other);
        return tree.lastByClimbing(one);
    }

    public float mean(int one, int other)
            throws IndexOutOfBoundsException, NoSuchElementException {
        requireVertices(one, other);
        plantHolding(one, other);
        return quotient(tree.sumFromRoot(other), tree.depthOf(other) + 1);
    }

    // ---- rooted trees

    public int parent(int root, int vertex)
            throws IndexOutOfBoundsException, NoSuchElementException,
            UnsupportedOperationException {
        requireVertices(root, vertex);
        plantHolding(root, vertex);
        if (root == vertex) {
            throw new UnsupportedOperationException("the vertex is the root");
        }
        return tree.above(vertex);
    }

    public int depth(int root, int vertex)
            throws IndexOutOfBoundsException, NoSuchElementException {
        requireVertices(root, vertex);
        plantHolding(root, vertex);
        return tree.depthOf(vertex);
    }

    public int ancestor(int root, int vertex, int distance)
            throws IndexOutOfBoundsException, NoSuchElementException, IllegalArgumentException {
        requireVertices(root, vertex);
        plantHolding(root, vertex);
        requireDistance(vertex, distance);
        jumps.build();
        return jumps.climb(vertex, distance);
    }

    public int ancestorByWalk(int root, int vertex, int distance)
            throws IndexOutOfBoundsException, NoSuchElementException, IllegalArgumentException {
        requireVertices(root, vertex);
        plantHolding(root, vertex);
        requireDistance(vertex, distance);
        return tree.climb(vertex, distance);
    }

    public int common(int root, int one, int other)
            throws IndexOutOfBoundsException, NoSuchElementException {
        requireVertex(root);
        requireVertices(one, other);
        plantHolding(root, one);
        requireInTree(other);
        jumps.build();
        return jumps.meet(one, other);
    }

    public int commonByWalk(int root, int one, int other)
            throws IndexOutOfBoundsException, NoSuchElementException {
        requireVertex(root);
        requireVertices(one, other);
        plantHolding(root, one);
        requireInTree(other);
        return tree.meetByClimbing(one, other);
    }

    public int subtreeSize(int root, int vertex)
            throws IndexOutOfBoundsException, NoSuchElementException {
        requireVertices(root, vertex);
        plantHolding(root, vertex);
        heavy.build();
        return heavy.sizeBelow(vertex);
    }

    public int subtreeSum(int root, int vertex)
            throws IndexOutOfBoundsException, NoSuchElementException {
        requireVertices(root, vertex);
        plantHolding(root, vertex);
        heavy.build();
        return heavy.sumBelow(vertex);
    }

    public int heavyChild(int root, int vertex)
            throws IndexOutOfBoundsException, NoSuchElementException,
            UnsupportedOperationException {
        requireVertices(root, vertex);
        plantHolding(root, vertex);
        heavy.build();
        int child = heavy.heavyBelow(vertex);
        if (child == NONE) {
            throw new UnsupportedOperationException("the vertex has no child");
        }
        return child;
    }

    public int head(int root, int vertex)
            throws IndexOutOfBoundsException, NoSuchElementException {
        requireVertices(root, vertex);
        plantHolding(root, vertex);
        heavy.build();
        return heavy.headOf(vertex);
    }

    public int heavyPaths(int root) throws IndexOutOfBoundsException {
        requireVertex(root);
        tree.plant(root, NONE);
        heavy.build();
        return heavy.countPaths();
    }

    public int lightEdges(int root, int vertex)
            throws IndexOutOfBoundsException, NoSuchElementException {
        requireVertices(root, vertex);
        plantHolding(root, vertex);
        heavy.build();
        return heavy.lightAbove(vertex);
    }

    public int diameter(int vertex) throws IndexOutOfBoundsException {
        requireVertex(vertex);
        tree.plant(vertex, NONE);
        tree.plant(tree.deepest(), NONE);
        return tree.depthOf(tree.deepest());
    }

    public int diameterByTrying(int vertex) throws IndexOutOfBoundsException {
        requireVertex(vertex);
        int longest = 0;
        for (int one = 0; one < graph.vertexCount(); one++) {
            tree.plant(one, NONE);
            if (tree.holds(vertex)) {
                longest = Math.max(longest, greatestDepth());
            }
        }
        return longest;
    }

    // ---- what the calls demand before they answer

    private static boolean isBetween(int number, int least, int greatest) {
        return number >= least && number <= greatest;
    }

    private static void requireValue(int value) {
        if (!isBetween(value, -GREATEST_VALUE, GREATEST_VALUE)) {
            throw new IllegalArgumentException("the value is not between -99 and 99");
        }
    }

    private static void requireWeight(int weight) {
        if (!isBetween(weight, LEAST_WEIGHT, GREATEST_WEIGHT)) {
            throw new IllegalArgumentException("the weight is not between 1 and 99");
        }
    }

    private static void requireDifferent(int one, int other) {
        if (one == other) {
            throw new UnsupportedOperationException("both vertices are the same");
        }
    }

    private void requireVertex(int vertex) {
        if (!graph.hasVertex(vertex)) {
            throw new IndexOutOfBoundsException("there is no such vertex");
        }
    }

    private void requireVertices(int one, int other) {
        requireVertex(one);
        requireVertex(other);
    }

    private void requireEdge(int edge) {
        if (!graph.hasEdge(edge)) {
            throw new IndexOutOfBoundsException("there is no such edge");
        }
    }

    private void requirePresent(int edge) {
        if (!graph.isPresent(edge)) {
            throw new IllegalStateException("the edge was removed");
        }
    }

    private void requireInForest(int edge) {
        if (!forest.holds(edge)) {
            throw new IllegalStateException("the edge does not belong to the forest");
        }
    }

    private static int requireReplacement(int edge) {
        if (edge == NONE) {
            throw new NoSuchElementException("no edge would replace this one");
        }
        return edge;
    }

    private void requireInTree(int vertex) {
        if (!tree.holds(vertex)) {
            throw new NoSuchElementException("the vertices are in different trees");
        }
    }

    private void requireDistance(int vertex, int distance) {
        if (!isBetween(distance, 0, tree.depthOf(vertex))) {
            throw new IllegalArgumentException("the distance is not between 0 and the depth");
        }
    }

    private void plantHolding(int root, int vertex) {
        tree.plant(root, NONE);
        requireInTree(vertex);
    }

    private int greatestDepth() {
        int greatest = 0;
        for (int vertex = 0; vertex < graph.vertexCount(); vertex++) {
            if (tree.holds(vertex)) {
                greatest = Math.max(greatest, tree.depthOf(vertex));
            }
        }
        return greatest;
    }

    private static float quotient(int sum, int count) {
        return count == 0 ? 0.0f : (float) sum / (float) count;
    }

    /** The vertices and edges, and the order of the edges; knows nothing of the forest. */
    private static final class Graph {
        private final int[] values = new int[MOST_VERTICES];
        private final int[] ones = new int[MOST_EDGES];
        private final int[] others = new int[MOST_EDGES];
        private final int[] weights = new int[MOST_EDGES];
        private final boolean[] present = new boolean[MOST_EDGES];
        private int vertexCount = 0;
        private int edgeCount = 0;

        int vertexCount() {
            return vertexCount;
        }

        int edgeCount() {
            return edgeCount;
        }

        boolean hasVertex(int vertex) {
            return vertex >= 0 && vertex < vertexCount;
        }

        boolean hasEdge(int edge) {
            return edge >= 0 && edge < edgeCount;
        }

        int appendVertex(int value) {
            if (vertexCount >= MOST_VERTICES) {
                return NONE;
            }
            values[vertexCount] = value;
            vertexCount++;
            return vertexCount - 1;
        }

        int appendEdge(int one, int other, int weight) {
            if (edgeCount >= MOST_EDGES) {
                return NONE;
            }
            ones[edgeCount] = one;
            others[edgeCount] = other;
            weights[edgeCount] = weight;
            present[edgeCount] = true;
            edgeCount++;
            return edgeCount - 1;
        }

        int valueOf(int vertex) {
            return hasVertex(vertex) ? values[vertex] : 0;
        }

        void putValue(int vertex, int value) {
            if (hasVertex(vertex)) {
                values[vertex] = value;
            }
        }

        int weightOf(int edge) {
            return hasEdge(edge) ? weights[edge] : 0;
        }

        void putWeight(int edge, int weight) {
            if (hasEdge(edge)) {
                weights[edge] = weight;
            }
        }

        boolean isPresent(int edge) {
            return hasEdge(edge) && present[edge];
        }

        void markRemoved(int edge) {
            if (hasEdge(edge)) {
                present[edge] = false;
            }
        }

        int firstEnd(int edge) {
            return hasEdge(edge) ? ones[edge] : NONE;
        }

        int secondEnd(int edge) {
            return hasEdge(edge) ? others[edge] : NONE;
        }

        int acrossFrom(int edge, int vertex) {
            if (firstEnd(edge) == vertex) {
                return secondEnd(edge);
            }
            return secondEnd(edge) == vertex ? firstEnd(edge) : NONE;
        }

        /** Every edge comes before NONE, so that a search for the first one may begin with NONE. */
        boolean comesBefore(int edge, int than) {
            if (!hasEdge(edge) || !hasEdge(than)) {
                return hasEdge(edge);
            }
            if (weights[edge] != weights[than]) {
                return weights[edge] < weights[than];
            }
            return edge < than;
        }

        boolean joins(int edge, int one, int other) {
            return isPresent(edge) && acrossFrom(edge, one) == other;
        }

        int countBetween(int one, int other) {
            int count = 0;
            for (int edge = 0; edge < edgeCount; edge++) {
                if (joins(edge, one, other)) {
                    count++;
                }
            }
            return count;
        }

        int firstBetween(int one, int other) {
            int first = NONE;
            for (int edge = 0; edge < edgeCount; edge++) {
                if (joins(edge, one, other) && comesBefore(edge, first)) {
                    first = edge;
                }
            }
            return first;
        }
    }

    /** The edges of the forest, with the sums that are kept while edges come and go. */
    private static final class Forest {
        private final Graph graph;
        /** The forest has no circle, so at most one of its edges joins two vertices. */
        private final int[][] edgeBetween = new int[MOST_VERTICES][MOST_VERTICES];
        private int weightSum = 0;
        private int edgeSum = 0;

        Forest(Graph graph) {
            this.graph = graph;
            for (int vertex = 0; vertex < MOST_VERTICES; vertex++) {
                Arrays.fill(edgeBetween[vertex], NONE);
            }
        }

        int weightSum() {
            return weightSum;
        }

        int edgeSum() {
            return edgeSum;
        }

        int edgeJoining(int one, int other) {
            if (!graph.hasVertex(one) || !graph.hasVertex(other)) {
                return NONE;
            }
            return edgeBetween[one][other];
        }

        boolean holds(int edge) {
            return graph.hasEdge(edge)
                    && edgeJoining(graph.firstEnd(edge), graph.secondEnd(edge)) == edge;
        }

        void link(int edge) {
            write(graph.firstEnd(edge), graph.secondEnd(edge), edge);
            weightSum += graph.weightOf(edge);
            edgeSum++;
        }

        /** Takes the edge's weight off the sum: to be called before that weight changes. */
        void cut(int edge) {
            write(graph.firstEnd(edge), graph.secondEnd(edge), NONE);
            weightSum -= graph.weightOf(edge);
            edgeSum--;
        }

        private void write(int one, int other, int edge) {
            if (graph.hasVertex(one) && graph.hasVertex(other)) {
                edgeBetween[one][other] = edge;
                edgeBetween[other][one] = edge;
            }
        }

        int countNeighbours(int vertex) {
            int count = 0;
            for (int other = 0; other < graph.vertexCount(); other++) {
                if (edgeJoining(vertex, other) != NONE) {
                    count++;
                }
            }
            return count;
        }

        int neighbourAt(int vertex, int index) {
            int before = 0;
            for (int other = 0; other < graph.vertexCount(); other++) {
                if (edgeJoining(vertex, other) != NONE) {
                    if (before == index) {
                        return other;
                    }
                    before++;
                }
            }
            return NONE;
        }
    }

    /** One tree of the forest, rooted; its tables are filled anew by every planting. */
    private static final class RootedTree {
        private final Graph graph;
        private final Forest forest;
        /** The vertices of the tree by rising depth: a parent stands before its children. */
        private final int[] order = new int[MOST_VERTICES];
        /** NONE where a vertex is not in the tree. */
        private final int[] depths = new int[MOST_VERTICES];
        private final int[] parents = new int[MOST_VERTICES];
        private final int[] sums = new int[MOST_VERTICES];
        private final int[] lastEdges = new int[MOST_VERTICES];
        private int count = 0;

        RootedTree(Graph graph, Forest forest) {
            this.graph = graph;
            this.forest = forest;
        }

        /** With a missing edge: plants what the root's tree would be without it. */
        void plant(int root, int missing) {
            count = 0;
            Arrays.fill(depths, NONE);
            Arrays.fill(parents, NONE);
            reach(root, NONE, NONE);
            for (int place = 0; place < MOST_VERTICES && place < count; place++) {
                for (int other = 0; other < graph.vertexCount(); other++) {
                    int edge = forest.edgeJoining(order[place], other);
                    if (edge != NONE && edge != missing) {
                        reach(other, order[place], edge);
                    }
                }
            }
        }

        private void reach(int vertex, int parent, int edge) {
            if (!graph.hasVertex(vertex) || depths[vertex] != NONE || count >= MOST_VERTICES) {
                return;
            }
            order[count] = vertex;
            count++;
            depths[vertex] = 0;
            parents[vertex] = parent;
            sums[vertex] = graph.valueOf(vertex);
            lastEdges[vertex] = edge;
            if (graph.hasVertex(parent)) {
                int latest = lastEdges[parent];
                depths[vertex] = depths[parent] + 1;
                sums[vertex] += sums[parent];
                if (latest != NONE && graph.comesBefore(edge, latest)) {
                    lastEdges[vertex] = latest;
                }
            }
        }

        int count() {
            return count;
        }

        int vertexAt(int place) {
            return place >= 0 && place < count && place < MOST_VERTICES ? order[place] : NONE;
        }

        int deepest() {
            return vertexAt(count - 1);
        }

        boolean holds(int vertex) {
            return depthOf(vertex) != NONE;
        }

        int depthOf(int vertex) {
            return graph.hasVertex(vertex) ? depths[vertex] : NONE;
        }

        int above(int vertex) {
            return graph.hasVertex(vertex) ? parents[vertex] : NONE;
        }

        int sumFromRoot(int vertex) {
            return holds(vertex) ? sums[vertex] : 0;
        }

        int lastFromRoot(int vertex) {
            return holds(vertex) ? lastEdges[vertex] : NONE;
        }

        int climb(int vertex, int distance) {
            int at = vertex;
            for (int step = 0; step < distance && step < MOST_VERTICES; step++) {
                at = above(at);
            }
            return at;
        }

        void addOnWayToRoot(int vertex, int amount) {
            int at = vertex;
            for (int step = 0; step < MOST_VERTICES && at != NONE; step++) {
                graph.putValue(at, graph.valueOf(at) + amount);
                at = above(at);
            }
        }

        int sumByClimbing(int vertex) {
            int sum = 0;
            int at = vertex;
            for (int step = 0; step < MOST_VERTICES && at != NONE; step++) {
                sum += graph.valueOf(at);
                at = above(at);
            }
            return sum;
        }

        int lastByClimbing(int vertex) {
            int latest = NONE;
            int at = vertex;
            for (int step = 0; step < MOST_VERTICES && above(at) != NONE; step++) {
                int edge = forest.edgeJoining(at, above(at));
                if (latest == NONE || graph.comesBefore(latest, edge)) {
                    latest = edge;
                }
                at = above(at);
            }
            return latest;
        }

        int meetByClimbing(int one, int other) {
            int left = one;
            int right = other;
            for (int step = 0; step < 2 * MOST_VERTICES && left != right; step++) {
                if (depthOf(left) >= depthOf(right)) {
                    left = above(left);
                } else {
                    right = above(right);
                }
            }
            return left;
        }
    }

    /** Changes the graph's edges so that the forest stays the minimum spanning one. */
    private static final class ForestKeeper {
        private final Graph graph;
        private final Forest forest;
        private final RootedTree tree;

        ForestKeeper(Graph graph, Forest forest, RootedTree tree) {
            this.graph = graph;
            this.forest = forest;
            this.tree = tree;
        }

        /** Lets an edge into the forest if it joins two trees or beats an edge of its circle. */
        void admit(int edge) {
            tree.plant(graph.firstEnd(edge), NONE);
            if (!tree.holds(graph.secondEnd(edge))) {
                forest.link(edge);
                return;
            }
            int latest = tree.lastFromRoot(graph.secondEnd(edge));
            if (latest != NONE && graph.comesBefore(edge, latest)) {
                forest.cut(latest);
                forest.link(edge);
            }
        }

        int release(int edge) {
            if (!forest.holds(edge)) {
                graph.markRemoved(edge);
                return NONE;
            }
            int replacement = findReplacement(edge);
            forest.cut(edge);
            graph.markRemoved(edge);
            if (replacement != NONE) {
                forest.link(replacement);
            }
            return replacement;
        }

        void reweigh(int edge, int weight) {
            if (!forest.holds(edge)) {
                graph.putWeight(edge, weight);
                admit(edge);
                return;
            }
            int rival = findReplacement(edge);
            forest.cut(edge);
            graph.putWeight(edge, weight);
            forest.link(graph.comesBefore(edge, rival) ? edge : rival);
        }

        /** A present edge that leaves the part on one side of the edge leads to the other side. */
        int findReplacement(int edge) {
            tree.plant(graph.firstEnd(edge), edge);
            int first = NONE;
            for (int rival = 0; rival < graph.edgeCount(); rival++) {
                if (rival != edge && leavesPlanted(rival) && graph.comesBefore(rival, first)) {
                    first = rival;
                }
            }
            return first;
        }

        private boolean leavesPlanted(int edge) {
            return graph.isPresent(edge)
                    && tree.holds(graph.firstEnd(edge)) != tree.holds(graph.secondEnd(edge));
        }
    }

    /** The forest found a second time, from the edges in their order, without the kept one. */
    private static final class ForestAnew {
        private final Graph graph;
        private final int[] sorted = new int[MOST_EDGES];
        private final int[] groups = new int[MOST_VERTICES];
        private final boolean[] chosen = new boolean[MOST_EDGES];
        private int sortedCount = 0;
        private int weightSum = 0;

        ForestAnew(Graph graph) {
            this.graph = graph;
        }

        int weightSum() {
            return weightSum;
        }

        void build(int missing) {
            clear();
            sortPresentBut(missing);
            for (int place = 0; place < sortedCount && place < MOST_EDGES; place++) {
                chooseIfItJoins(sorted[place]);
            }
        }

        private void clear() {
            sortedCount = 0;
            weightSum = 0;
            for (int vertex = 0; vertex < MOST_VERTICES; vertex++) {
                groups[vertex] = vertex;
            }
            for (int edge = 0; edge < MOST_EDGES; edge++) {
                chosen[edge] = false;
            }
        }

        private void sortPresentBut(int missing) {
            for (int edge = 0; edge < graph.edgeCount(); edge++) {
                if (edge != missing && graph.isPresent(edge)) {
                    insert(edge);
                }
            }
        }

        private void insert(int edge) {
            if (sortedCount >= MOST_EDGES) {
                return;
            }
            int place = sortedCount;
            while (place > 0 && graph.comesBefore(edge, sorted[place - 1])) {
                sorted[place] = sorted[place - 1];
                place--;
            }
            sorted[place] = edge;
            sortedCount++;
        }

        private void chooseIfItJoins(int edge) {
            int from = groupOf(graph.firstEnd(edge));
            int into = groupOf(graph.secondEnd(edge));
            if (!graph.hasEdge(edge) || from == into) {
                return;
            }
            chosen[edge] = true;
            weightSum += graph.weightOf(edge);
            for (int vertex = 0; vertex < MOST_VERTICES; vertex++) {
                if (groups[vertex] == from) {
                    groups[vertex] = into;
                }
            }
        }

        private int groupOf(int vertex) {
            return graph.hasVertex(vertex) ? groups[vertex] : NONE;
        }

        int firstChosenOutside(Forest forest) {
            int first = NONE;
            for (int edge = 0; edge < MOST_EDGES; edge++) {
                if (chosen[edge] && !forest.holds(edge) && graph.comesBefore(edge, first)) {
                    first = edge;
                }
            }
            return first;
        }
    }

    /** A walk over all present edges, be they of the forest or not. */
    private static final class GraphWalk {
        private final Graph graph;
        private final boolean[] seen = new boolean[MOST_VERTICES];
        private final int[] queue = new int[MOST_VERTICES];
        private int queued = 0;

        GraphWalk(Graph graph) {
            this.graph = graph;
        }

        boolean leadsTo(int from, int target) {
            queued = 0;
            for (int vertex = 0; vertex < MOST_VERTICES; vertex++) {
                seen[vertex] = false;
            }
            visit(from);
            for (int place = 0; place < MOST_VERTICES && place < queued; place++) {
                visitAround(queue[place]);
            }
            return graph.hasVertex(target) && seen[target];
        }

        private void visitAround(int vertex) {
            for (int edge = 0; edge < graph.edgeCount(); edge++) {
                if (graph.isPresent(edge)) {
                    visit(graph.acrossFrom(edge, vertex));
                }
            }
        }

        private void visit(int vertex) {
            if (graph.hasVertex(vertex) && !seen[vertex] && queued < MOST_VERTICES) {
                seen[vertex] = true;
                queue[queued] = vertex;
                queued++;
            }
        }
    }

    /** Subtrees and heavy paths of the planted tree; the tables hold for its vertices alone. */
    private static final class HeavyPaths {
        private final Graph graph;
        private final RootedTree tree;
        private final int[] sizes = new int[MOST_VERTICES];
        private final int[] sums = new int[MOST_VERTICES];
        private final int[] heavyChildren = new int[MOST_VERTICES];
        private final int[] heads = new int[MOST_VERTICES];
        private final int[] sumsToHead = new int[MOST_VERTICES];
        private final int[] lights = new int[MOST_VERTICES];

        HeavyPaths(Graph graph, RootedTree tree) {
            this.graph = graph;
            this.tree = tree;
        }

        void build() {
            for (int vertex = 0; vertex < MOST_VERTICES; vertex++) {
                sizes[vertex] = 1;
                sums[vertex] = graph.valueOf(vertex);
                heavyChildren[vertex] = NONE;
            }
            // From the deepest up: what a vertex hands to its parent must be whole by then.
            for (int place = tree.count() - 1; place >= 0; place--) {
                handUp(tree.vertexAt(place));
            }
            for (int place = 0; place < tree.count(); place++) {
                followDown(tree.vertexAt(place));
            }
        }

        private void handUp(int vertex) {
            int parent = tree.above(vertex);
            if (!graph.hasVertex(vertex) || !graph.hasVertex(parent)) {
                return;
            }
            sizes[parent] += sizes[vertex];
            sums[parent] += sums[vertex];
            if (isHeavier(vertex, heavyChildren[parent])) {
                heavyChildren[parent] = vertex;
            }
        }

        private boolean isHeavier(int vertex, int than) {
            if (than == NONE || sizeBelow(vertex) > sizeBelow(than)) {
                return true;
            }
            return sizeBelow(vertex) == sizeBelow(than) && vertex < than;
        }

        private void followDown(int vertex) {
            if (!graph.hasVertex(vertex)) {
                return;
            }
            int parent = tree.above(vertex);
            boolean goesOn = parent != NONE && heavyBelow(parent) == vertex;
            boolean isLight = parent != NONE && !goesOn;
            heads[vertex] = goesOn ? headOf(parent) : vertex;
            sumsToHead[vertex] = graph.valueOf(vertex) + (goesOn ? sumToHead(parent) : 0);
            lights[vertex] = lightAbove(parent) + (isLight ? 1 : 0);
        }

        int sizeBelow(int vertex) {
            return graph.hasVertex(vertex) ? sizes[vertex] : 0;
        }

        int sumBelow(int vertex) {
            return graph.hasVertex(vertex) ? sums[vertex] : 0;
        }

        int heavyBelow(int vertex) {
            return graph.hasVertex(vertex) ? heavyChildren[vertex] : NONE;
        }

        int headOf(int vertex) {
            return graph.hasVertex(vertex) ? heads[vertex] : NONE;
        }

        int lightAbove(int vertex) {
            return graph.hasVertex(vertex) ? lights[vertex] : 0;
        }

        private int sumToHead(int vertex) {
            return graph.hasVertex(vertex) ? sumsToHead[vertex] : 0;
        }

        int sumToRoot(int vertex) {
            int sum = 0;
            int at = vertex;
            for (int step = 0; step < MOST_VERTICES && at != NONE; step++) {
                sum += sumToHead(at);
                at = tree.above(headOf(at));
            }
            return sum;
        }

        int countPaths() {
            int paths = 0;
            for (int place = 0; place < tree.count(); place++) {
                int vertex = tree.vertexAt(place);
                if (headOf(vertex) == vertex) {
                    paths++;
                }
            }
            return paths;
        }
    }

    /** Ancestors of the planted tree's vertices at distances that are powers of two. */
    private static final class Jumps {
        private final Graph graph;
        private final RootedTree tree;
        private final int[][] targets = new int[JUMP_LEVELS][MOST_VERTICES];

        Jumps(Graph graph, RootedTree tree) {
            this.graph = graph;
            this.tree = tree;
        }

        void build() {
            for (int vertex = 0; vertex < MOST_VERTICES; vertex++) {
                targets[0][vertex] = tree.above(vertex);
            }
            for (int level = 1; level < JUMP_LEVELS; level++) {
                for (int vertex = 0; vertex < MOST_VERTICES; vertex++) {
                    targets[level][vertex] = jump(jump(vertex, level - 1), level - 1);
                }
            }
        }

        private int jump(int vertex, int level) {
            if (!graph.hasVertex(vertex) || level < 0 || level >= JUMP_LEVELS) {
                return NONE;
            }
            return targets[level][vertex];
        }

        int climb(int vertex, int distance) {
            int at = vertex;
            for (int level = 0; level < JUMP_LEVELS; level++) {
                if ((distance >> level & 1) == 1) {
                    at = jump(at, level);
                }
            }
            return at;
        }

        int meet(int one, int other) {
            int left = climb(one, Math.max(0, tree.depthOf(one) - tree.depthOf(other)));
            int right = climb(other, Math.max(0, tree.depthOf(other) - tree.depthOf(one)));
            if (left == right) {
                return left;
            }
            // From the longest jump down: the two stop right below the place where they meet.
            for (int level = JUMP_LEVELS - 1; level >= 0; level--) {
                if (jump(left, level) != jump(right, level)) {
                    left = jump(left, level);
                    right = jump(right, level);
                }
            }
            return jump(left, 0);
        }
    }
}
