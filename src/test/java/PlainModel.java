import java.util.ArrayList;
import java.util.List;

/**
 * The document's terms in their plainest form, with nothing kept but vertices and edges; every
 * answer is found anew. An answer that is a throw is the text "throws " and the exception's name.
 */
final class PlainModel {
    private static final String INDEX = "throws java.lang.IndexOutOfBoundsException";
    private static final String ARGUMENT = "throws java.lang.IllegalArgumentException";
    private static final String STATE = "throws java.lang.IllegalStateException";
    private static final String UNSUPPORTED = "throws java.lang.UnsupportedOperationException";
    private static final String NO_ELEMENT = "throws java.util.NoSuchElementException";

    static final class Edge {
        int number;
        int one;
        int other;
        int weight;
        boolean removed;

        boolean isAt(int vertex) {
            return one == vertex || other == vertex;
        }

        int across(int vertex) {
            return one == vertex ? other : one;
        }
    }

    final List<Integer> values = new ArrayList<>();
    final List<Edge> edges = new ArrayList<>();

    // ---- terms

    private static boolean isBefore(Edge first, Edge second) {
        return first.weight < second.weight
                || first.weight == second.weight && first.number < second.number;
    }

    private List<Edge> presentInOrder() {
        List<Edge> present = new ArrayList<>();
        for (Edge edge : edges) {
            if (!edge.removed) {
                present.add(edge);
            }
        }
        present.sort((a, b) -> isBefore(a, b) ? -1 : isBefore(b, a) ? 1 : 0);
        return present;
    }

    private List<Edge> forestOf(List<Edge> inOrder) {
        List<Edge> forest = new ArrayList<>();
        for (Edge edge : inOrder) {
            if (edgesFromTo(forest, edge.one, edge.other, null) == null) {
                forest.add(edge);
            }
        }
        return forest;
    }

    List<Edge> forest() {
        return forestOf(presentInOrder());
    }

    /** The edges of the way in their order from one to the other, or null. */
    private static List<Edge> edgesFromTo(List<Edge> among, int one, int other, Edge came) {
        if (one == other) {
            return new ArrayList<>();
        }
        for (Edge edge : among) {
            if (edge != came && edge.isAt(one)) {
                List<Edge> rest = edgesFromTo(among, edge.across(one), other, edge);
                if (rest != null) {
                    rest.add(0, edge);
                    return rest;
                }
            }
        }
        return null;
    }

    private List<Edge> edgePath(int one, int other) {
        return edgesFromTo(forest(), one, other, null);
    }

    private List<Integer> path(int one, int other) {
        List<Edge> way = edgePath(one, other);
        if (way == null) {
            return null;
        }
        List<Integer> path = new ArrayList<>();
        int at = one;
        path.add(at);
        for (Edge edge : way) {
            at = edge.across(at);
            path.add(at);
        }
        return path;
    }

    private int sum(List<Integer> vertices) {
        int sum = 0;
        for (int vertex : vertices) {
            sum += values.get(vertex);
        }
        return sum;
    }

    private int parentOf(int root, int vertex) {
        return vertex == root ? -1 : path(vertex, root).get(1);
    }

    private List<Integer> subtree(int root, int vertex) {
        List<Integer> below = new ArrayList<>();
        for (int other = 0; other < values.size(); other++) {
            List<Integer> ancestors = path(other, root);
            if (ancestors != null && ancestors.contains(vertex)) {
                below.add(other);
            }
        }
        return below;
    }

    private int heavyChildOf(int root, int vertex) {
        int heavy = -1;
        int size = 0;
        for (int child = 0; child < values.size(); child++) {
            if (path(root, child) != null && parentOf(root, child) == vertex
                    && subtree(root, child).size() > size) {
                heavy = child;
                size = subtree(root, child).size();
            }
        }
        return heavy;
    }

    private boolean isHead(int root, int vertex) {
        return vertex == root || heavyChildOf(root, parentOf(root, vertex)) != vertex;
    }

    // ---- answers

    private boolean no(int vertex) {
        return vertex < 0 || vertex >= values.size();
    }

    private boolean noEdge(int edge) {
        return edge < 0 || edge >= edges.size();
    }

    private static String text(int answer) {
        return String.valueOf(answer);
    }

    String answer(String name, int[] a) {
        switch (name) {
            case "addVertex": return addVertex(a[0]);
            case "setValue": return setValue(a[0], a[1]);
            case "addEdge": return addEdge(a[0], a[1], a[2]);
            case "removeEdge": return removeEdge(a[0]);
            case "setWeight": return setWeight(a[0], a[1]);
            case "addOnPath": return addOnPath(a[0], a[1], a[2]);
            case "vertices": return text(values.size());
            case "edges": return text(edges.size());
            case "value": return no(a[0]) ? INDEX : text(values.get(a[0]));
            case "weight": return noEdge(a[0]) ? INDEX : text(edges.get(a[0]).weight);
            case "state": return state(a[0]);
            case "otherEnd": return otherEnd(a[0], a[1]);
            case "parallel": return parallel(a[0], a[1]);
            case "lightest": return lightest(a[0], a[1]);
            case "forestWeight": case "forestWeightAnew": return forestWeight();
            case "trees": return text(values.size() - forest().size());
            case "degree": return no(a[0]) ? INDEX : text(neighbours(a[0]).size());
            case "neighbour": return neighbour(a[0], a[1]);
            case "isConnected": case "isConnectedByWalk": return isConnected(a[0], a[1]);
            case "replacement": case "replacementAnew": return replacement(a[0]);
            case "heavyPaths": return heavyPaths(a[0]);
            case "diameter": case "diameterByTrying": return diameter(a[0]);
            case "common": case "commonByWalk": return common(a[0], a[1], a[2]);
            default: return answerOnPath(name, a);
        }
    }

    private String answerOnPath(String name, int[] a) {
        if (no(a[0]) || no(a[1])) {
            return INDEX;
        }
        List<Integer> path = path(a[0], a[1]);
        if (path == null) {
            return NO_ELEMENT;
        }
        switch (name) {
            case "pathVertices": return text(path.size());
            case "pathVertex":
                return a[2] < 0 || a[2] >= path.size() ? ARGUMENT : text(path.get(a[2]));
            case "pathSum": case "pathSumByHeavyPaths": case "pathSumByWalk":
                return text(sum(path));
            case "last": case "lastByWalk": return last(a[0], a[1]);
            case "mean": return String.valueOf((float) sum(path) / (float) path.size());
            case "parent": return a[0] == a[1] ? UNSUPPORTED : text(parentOf(a[0], a[1]));
            case "depth": return text(path.size() - 1);
            case "ancestor": case "ancestorByWalk":
                return a[2] < 0 || a[2] >= path.size()
                        ? ARGUMENT : text(path(a[1], a[0]).get(a[2]));
            case "subtreeSize": return text(subtree(a[0], a[1]).size());
            case "subtreeSum": return text(sum(subtree(a[0], a[1])));
            case "heavyChild": return heavyChild(a[0], a[1]);
            case "head": return head(a[0], a[1]);
            case "lightEdges": return lightEdges(a[0], a[1]);
            default: throw new AssertionError(name);
        }
    }

    private String addVertex(int value) {
        if (value < -99 || value > 99) {
            return ARGUMENT;
        }
        if (values.size() == 20) {
            return STATE;
        }
        values.add(value);
        return text(values.size() - 1);
    }

    private String setValue(int vertex, int value) {
        if (no(vertex)) {
            return INDEX;
        }
        return value < -99 || value > 99 ? ARGUMENT : text(values.set(vertex, value));
    }

    private String addEdge(int one, int other, int weight) {
        if (no(one) || no(other)) {
            return INDEX;
        }
        if (weight < 1 || weight > 99) {
            return ARGUMENT;
        }
        if (one == other) {
            return UNSUPPORTED;
        }
        if (edges.size() == 60) {
            return STATE;
        }
        Edge edge = new Edge();
        edge.number = edges.size();
        edge.one = one;
        edge.other = other;
        edge.weight = weight;
        edges.add(edge);
        return text(edge.number);
    }

    private String removeEdge(int number) {
        if (noEdge(number)) {
            return INDEX;
        }
        if (edges.get(number).removed) {
            return STATE;
        }
        List<Edge> before = forest();
        edges.get(number).removed = true;
        return text(firstNotIn(before));
    }

    private int firstNotIn(List<Edge> before) {
        for (Edge edge : forest()) {
            if (!before.contains(edge)) {
                return edge.number;
            }
        }
        return -1;
    }

    private String setWeight(int number, int weight) {
        if (noEdge(number)) {
            return INDEX;
        }
        if (weight < 1 || weight > 99) {
            return ARGUMENT;
        }
        Edge edge = edges.get(number);
        if (edge.removed) {
            return STATE;
        }
        int before = edge.weight;
        edge.weight = weight;
        return text(before);
    }

    private String addOnPath(int one, int other, int amount) {
        if (no(one) || no(other)) {
            return INDEX;
        }
        if (amount < -9 || amount > 9) {
            return ARGUMENT;
        }
        List<Integer> path = path(one, other);
        if (path == null) {
            return NO_ELEMENT;
        }
        for (int vertex : path) {
            values.set(vertex, values.get(vertex) + amount);
        }
        return text(path.size());
    }

    private String state(int number) {
        if (noEdge(number)) {
            return INDEX;
        }
        Edge edge = edges.get(number);
        return edge.removed ? "r" : forest().contains(edge) ? "f" : "o";
    }

    private String otherEnd(int edge, int vertex) {
        if (noEdge(edge) || no(vertex)) {
            return INDEX;
        }
        return edges.get(edge).isAt(vertex) ? text(edges.get(edge).across(vertex)) : NO_ELEMENT;
    }

    private List<Edge> between(int one, int other) {
        List<Edge> between = new ArrayList<>();
        for (Edge edge : presentInOrder()) {
            if (edge.isAt(one) && edge.across(one) == other) {
                between.add(edge);
            }
        }
        return between;
    }

    private String parallel(int one, int other) {
        return no(one) || no(other) ? INDEX : text(between(one, other).size());
    }

    private String lightest(int one, int other) {
        if (no(one) || no(other)) {
            return INDEX;
        }
        List<Edge> between = between(one, other);
        return between.isEmpty() ? NO_ELEMENT : text(between.get(0).number);
    }

    private String forestWeight() {
        int sum = 0;
        for (Edge edge : forest()) {
            sum += edge.weight;
        }
        return text(sum);
    }

    private List<Integer> neighbours(int vertex) {
        List<Integer> found = new ArrayList<>();
        for (Edge edge : forest()) {
            if (edge.isAt(vertex)) {
                found.add(edge.across(vertex));
            }
        }
        found.sort(Integer::compare);
        return found;
    }

    private String neighbour(int vertex, int index) {
        if (no(vertex)) {
            return INDEX;
        }
        List<Integer> found = neighbours(vertex);
        return index < 0 || index >= found.size() ? NO_ELEMENT : text(found.get(index));
    }

    private String isConnected(int one, int other) {
        return no(one) || no(other) ? INDEX : String.valueOf(path(one, other) != null);
    }

    private String replacement(int number) {
        if (noEdge(number)) {
            return INDEX;
        }
        List<Edge> before = forest();
        if (!before.contains(edges.get(number))) {
            return STATE;
        }
        edges.get(number).removed = true;
        int found = firstNotIn(before);
        edges.get(number).removed = false;
        return found == -1 ? NO_ELEMENT : text(found);
    }

    private String last(int one, int other) {
        if (one == other) {
            return UNSUPPORTED;
        }
        Edge last = null;
        for (Edge edge : edgePath(one, other)) {
            if (last == null || isBefore(last, edge)) {
                last = edge;
            }
        }
        return text(last.number);
    }

    private String common(int root, int one, int other) {
        if (no(root) || no(one) || no(other)) {
            return INDEX;
        }
        List<Integer> above = path(one, root);
        List<Integer> others = path(other, root);
        if (above == null || others == null) {
            return NO_ELEMENT;
        }
        for (int ancestor : above) {
            if (others.contains(ancestor)) {
                return text(ancestor);
            }
        }
        throw new AssertionError("the root is common to all");
    }

    private String heavyChild(int root, int vertex) {
        int child = heavyChildOf(root, vertex);
        return child == -1 ? UNSUPPORTED : text(child);
    }

    private String head(int root, int vertex) {
        int at = vertex;
        while (!isHead(root, at)) {
            at = parentOf(root, at);
        }
        return text(at);
    }

    private String heavyPaths(int root) {
        if (no(root)) {
            return INDEX;
        }
        int heads = 0;
        for (int vertex : subtree(root, root)) {
            heads += isHead(root, vertex) ? 1 : 0;
        }
        return text(heads);
    }

    private String lightEdges(int root, int vertex) {
        int light = 0;
        for (int above : path(vertex, root)) {
            light += above != root && isHead(root, above) ? 1 : 0;
        }
        return text(light);
    }

    private String diameter(int vertex) {
        if (no(vertex)) {
            return INDEX;
        }
        int longest = 0;
        for (int one : subtree(vertex, vertex)) {
            for (int other : subtree(vertex, vertex)) {
                longest = Math.max(longest, path(one, other).size() - 1);
            }
        }
        return text(longest);
    }
}
