import java.util.NoSuchElementException;

/** For each promise: ordinary inputs, the edges that the document names, and wrong inputs. */
public final class PromiseTests {
    private static final Class<IndexOutOfBoundsException> INDEX = Refusals.INDEX;
    private static final Class<IllegalArgumentException> ARGUMENT = Refusals.ARGUMENT;
    private static final Class<IllegalStateException> STATE = Refusals.STATE;
    private static final Class<NoSuchElementException> ABSENT = Refusals.ABSENT;
    private static final Class<UnsupportedOperationException> UNSUPPORTED = Refusals.UNSUPPORTED;

    public static void main(String[] args) {
        graph();
        edges();
        forest();
        paths();
        rootedTrees();
        Checks.finish("PromiseTests");
    }

    private static void graph() {
        promise1();
        promise2();
        promise3();
        promise8();
        promise10();
    }

    private static void edges() {
        promise4();
        promise5();
        promise6();
        promise7();
        promise9();
        promise11();
        promise12();
        promise13();
        promise14();
        promise15();
    }

    private static void forest() {
        promises16And17();
        promise18();
        promise19();
        promise20();
        promises21And22();
        promises23And24();
    }

    private static void paths() {
        promise25();
        promise26();
        promises27To29();
        promises30And31();
        promise32();
    }

    private static void rootedTrees() {
        promise33();
        promise34();
        promises35And36();
        promises37And38();
        promise39();
        promise40();
        promise41();
        promise42();
        promise43();
        promise44();
        promises45And46();
    }

    // ---- graph

    private static void promise1() {
        Thicket x = new Thicket();
        Checks.due("1 vertices", 0, x::vertices);
        Checks.due("1 edges", 0, x::edges);
        Checks.due("1 trees", 0, x::trees);
        Checks.due("1 forestWeight", 0, x::forestWeight);
        Checks.due("1 forestWeightAnew", 0, x::forestWeightAnew);
        Graphs.withVertices(3);
        Checks.due("1 objects share nothing", 0, x::vertices);
    }

    private static void promise2() {
        Thicket x = new Thicket();
        Checks.due("2 least", 0, () -> x.addVertex(-99));
        Checks.due("2 greatest", 1, () -> x.addVertex(99));
        Checks.due("2 value", 99, () -> x.value(1));
        Checks.throwsDue("2 too small", ARGUMENT, () -> x.addVertex(-100));
        Checks.throwsDue("2 too great", ARGUMENT, () -> x.addVertex(100));
        Checks.throwsDue("2 smallest", ARGUMENT, () -> x.addVertex(Integer.MIN_VALUE));
        Checks.due("2 nothing was added", 2, x::vertices);
        for (int vertex = 2; vertex < 20; vertex++) {
            Checks.due("2 number", vertex, () -> x.addVertex(7));
        }
        Checks.throwsDue("2 full", STATE, () -> x.addVertex(7));
        Checks.throwsDue("2 full, wrong value first", ARGUMENT, () -> x.addVertex(100));
        Checks.due("2 still 20", 20, x::vertices);
    }

    private static void promise3() {
        Thicket x = Graphs.bush();
        Checks.due("3 before", 3, () -> x.setValue(2, -99));
        Checks.due("3 before again", -99, () -> x.setValue(2, 99));
        Checks.due("3 value", 99, () -> x.value(2));
        Checks.throwsDue("3 too great", ARGUMENT, () -> x.setValue(2, 100));
        Checks.throwsDue("3 too small", ARGUMENT, () -> x.setValue(2, -100));
        Checks.due("3 nothing changed", 99, () -> x.value(2));
        Checks.due("3 others stay", 4, () -> x.value(3));
        Refusals.indexIsChecked("3", (y, vertex) -> y.setValue(vertex, 0));
        Refusals.indexIsChecked("3 index first", (y, vertex) -> y.setValue(vertex, 100));
        x.addOnPath(2, 2, 9);
        Checks.due("3 a value beyond 99 before", 108, () -> x.setValue(2, 0));
    }

    private static void promise8() {
        Checks.due("8", 9, Graphs.bush()::vertices);
        Checks.due("8 most", 20, Graphs.line()::vertices);
    }

    private static void promise10() {
        Thicket x = Graphs.bush();
        Checks.due("10 first", 1, () -> x.value(0));
        Checks.due("10 last", 9, () -> x.value(8));
        Refusals.indexIsChecked("10", Thicket::value);
    }

    // ---- edges

    private static void promise4() {
        Thicket x = Graphs.withVertices(3);
        Checks.due("4 lightest weight", 0, () -> x.addEdge(0, 1, 1));
        Checks.due("4 greatest weight", 1, () -> x.addEdge(1, 0, 99));
        Checks.due("4 between the same", 2, () -> x.addEdge(0, 1, 1));
        Checks.throwsDue("4 weight 0", ARGUMENT, () -> x.addEdge(0, 2, 0));
        Checks.throwsDue("4 weight 100", ARGUMENT, () -> x.addEdge(0, 2, 100));
        Checks.throwsDue("4 loop", UNSUPPORTED, () -> x.addEdge(2, 2, 5));
        Checks.throwsDue("4 weight before loop", ARGUMENT, () -> x.addEdge(2, 2, 0));
        Refusals.indexesAreChecked("4", (y, one, other) -> y.addEdge(one, other, 5));
        Refusals.indexesAreChecked("4 index first", (y, one, other) -> y.addEdge(one, other, 0));
        Checks.due("4 nothing was added", 3, x::edges);
        x.removeEdge(1);
        for (int edge = 3; edge < 60; edge++) {
            Checks.due("4 number", edge, () -> x.addEdge(1, 2, 50));
        }
        Checks.throwsDue("4 full, removed ones included", STATE, () -> x.addEdge(0, 2, 1));
        Checks.throwsDue("4 full, loop first", UNSUPPORTED, () -> x.addEdge(2, 2, 1));
        Checks.throwsDue("4 full, weight first", ARGUMENT, () -> x.addEdge(0, 2, 0));
        Checks.throwsDue("4 full, index first", INDEX, () -> x.addEdge(0, 3, 1));
        Checks.due("4 still 60", 60, x::edges);
        Checks.due("4 forest is as before", 51, x::forestWeight);
        addedEdgeTakesAPlace();
    }

    private static void addedEdgeTakesAPlace() {
        Thicket x = Graphs.bush();
        Checks.due("4 same weight as the last", 7, () -> x.addEdge(3, 4, 9));
        Checks.due("4 stays outside", 'o', () -> x.state(7));
        Checks.due("4 lighter than the last", 8, () -> x.addEdge(4, 7, 8));
        Checks.due("4 comes in", 'f', () -> x.state(8));
        Checks.due("4 the last goes out", 'o', () -> x.state(3));
        Checks.due("4 weight is kept", 38, x::forestWeight);
    }

    private static void promise5() {
        Thicket x = Graphs.bush();
        x.addEdge(3, 7, 20);
        x.addEdge(1, 2, 20);
        x.addEdge(1, 6, 30);
        Checks.due("5 first of those that join", 7, () -> x.removeEdge(0));
        Checks.due("5 its state", 'r', () -> x.state(0));
        Checks.due("5 state of the new one", 'f', () -> x.state(7));
        Checks.due("5 weight", 54, x::forestWeight);
        Checks.throwsDue("5 again", STATE, () -> x.removeEdge(0));
        Checks.due("5 outside the forest", -1, () -> x.removeEdge(9));
        Checks.due("5 no other joins", -1, () -> x.removeEdge(3));
        Checks.due("5 trees", 3, x::trees);
        Checks.due("5 next", 8, () -> x.removeEdge(7));
        Refusals.edgeIsChecked("5", Thicket::removeEdge);
    }

    private static void promise6() {
        Thicket x = Graphs.bush();
        x.addEdge(3, 4, 20);
        Checks.due("6 before", 20, () -> x.setWeight(7, 9));
        Checks.due("6 same weight, later number", 'o', () -> x.state(7));
        Checks.due("6 before again", 9, () -> x.setWeight(7, 8));
        Checks.due("6 lighter comes in", 'f', () -> x.state(7));
        Checks.due("6 the heavier goes out", 'o', () -> x.state(3));
        Checks.due("6 weight", 38, x::forestWeight);
        Checks.due("6 heavier, in the forest", 8, () -> x.setWeight(7, 9));
        Checks.due("6 same weight, earlier number", 'f', () -> x.state(3));
        Checks.due("6 goes out", 'o', () -> x.state(7));
        Checks.due("6 alone between trees", 5, () -> x.setWeight(6, 99));
        Checks.due("6 stays in", 'f', () -> x.state(6));
        Checks.due("6 weight of the heavier", 133, x::forestWeight);
        Checks.due("6 lighter, in the forest", 99, () -> x.setWeight(6, 1));
        Checks.due("6 weight of the lighter", 35, x::forestWeight);
        Checks.due("6 found anew", 35, x::forestWeightAnew);
        Checks.throwsDue("6 weight 0", ARGUMENT, () -> x.setWeight(6, 0));
        Checks.throwsDue("6 weight 100", ARGUMENT, () -> x.setWeight(6, 100));
        Checks.due("6 nothing changed", 1, () -> x.weight(6));
        x.removeEdge(6);
        Checks.throwsDue("6 removed", STATE, () -> x.setWeight(6, 5));
        Checks.throwsDue("6 removed, weight first", ARGUMENT, () -> x.setWeight(6, 0));
        Checks.due("6 a removed one keeps its weight", 1, () -> x.weight(6));
        Refusals.edgeIsChecked("6", (y, edge) -> y.setWeight(edge, 5));
        Refusals.edgeIsChecked("6 index first", (y, edge) -> y.setWeight(edge, 0));
    }

    private static void promise7() {
        Thicket x = Graphs.bush();
        Checks.due("7 path", 5, () -> x.addOnPath(4, 5, 9));
        int[] values = {10, 11, 12, 4, 14, 15, 7, 8, 9};
        for (int vertex = 0; vertex < 9; vertex++) {
            int at = vertex;
            Checks.due("7 value " + at, values[at], () -> x.value(at));
        }
        Checks.due("7 to itself", 1, () -> x.addOnPath(8, 8, -9));
        Checks.due("7 value alone", 0, () -> x.value(8));
        Checks.throwsDue("7 too great", ARGUMENT, () -> x.addOnPath(0, 1, 10));
        Checks.throwsDue("7 too small", ARGUMENT, () -> x.addOnPath(0, 1, -10));
        Checks.throwsDue("7 amount before trees", ARGUMENT, () -> x.addOnPath(0, 8, 10));
        Refusals.oneTreeIsAsked("7", (y, one, other) -> y.addOnPath(one, other, 1));
        Refusals.indexesAreChecked("7 index first", (y, one, other) -> y.addOnPath(one, other, 10));
        Checks.throwsDue("7 other tree", ABSENT, () -> x.addOnPath(0, 8, 1));
        Checks.due("7 nothing changed", 10, () -> x.value(0));
        Thicket far = Graphs.line();
        Checks.due("7 the longest path", 20, () -> far.addOnPath(19, 0, -9));
        Checks.due("7 its first", -8, () -> far.value(0));
        Checks.due("7 its last", 11, () -> far.value(19));
        for (int time = 0; time < 12; time++) {
            far.addOnPath(0, 19, -9);
        }
        Checks.due("7 less than -99", -116, () -> far.value(0));
        valuesGrowBeyond99();
    }

    private static void valuesGrowBeyond99() {
        Thicket x = Graphs.withVertices(1);
        for (int time = 0; time < 500; time++) {
            x.addOnPath(0, 0, 9);
        }
        Checks.due("7 far beyond 99", 4501, () -> x.value(0));
    }

    private static void promise9() {
        Thicket x = Graphs.bush();
        Checks.due("9", 7, x::edges);
        x.removeEdge(3);
        Checks.due("9 removed ones included", 7, x::edges);
        Checks.due("9 the next number", 7, () -> x.addEdge(1, 4, 9));
    }

    private static void promise11() {
        Thicket x = Graphs.bush();
        Checks.due("11", 9, () -> x.weight(3));
        x.removeEdge(3);
        Checks.due("11 removed", 9, () -> x.weight(3));
        Refusals.edgeIsChecked("11", Thicket::weight);
    }

    private static void promise12() {
        Thicket x = Graphs.bush();
        x.addEdge(7, 6, 6);
        Checks.due("12 forest", 'f', () -> x.state(6));
        Checks.due("12 outside", 'o', () -> x.state(7));
        x.removeEdge(6);
        Checks.due("12 removed", 'r', () -> x.state(6));
        Checks.due("12 comes in", 'f', () -> x.state(7));
        Refusals.edgeIsChecked("12", Thicket::state);
        sameWeightsGoByNumber();
    }

    private static void sameWeightsGoByNumber() {
        Thicket x = Graphs.withVertices(3);
        x.addEdge(0, 1, 4);
        x.addEdge(1, 0, 4);
        x.addEdge(1, 2, 4);
        x.addEdge(2, 0, 4);
        char[] states = {'f', 'o', 'f', 'o'};
        for (int edge = 0; edge < 4; edge++) {
            int at = edge;
            Checks.due("12 same weights " + at, states[at], () -> x.state(at));
        }
    }

    private static void promise13() {
        Thicket x = Graphs.bush();
        Checks.due("13", 4, () -> x.otherEnd(3, 1));
        Checks.due("13 from the other", 1, () -> x.otherEnd(3, 4));
        Checks.throwsDue("13 not joined", ABSENT, () -> x.otherEnd(3, 0));
        x.removeEdge(3);
        Checks.due("13 removed", 4, () -> x.otherEnd(3, 1));
        Checks.throwsDue("13 removed, not joined", ABSENT, () -> x.otherEnd(3, 8));
        Refusals.edgeIsChecked("13", (y, edge) -> y.otherEnd(edge, 0));
        Refusals.indexIsChecked("13", (y, vertex) -> y.otherEnd(0, vertex));
    }

    private static void promise14() {
        Thicket x = Graphs.bush();
        x.addEdge(4, 1, 2);
        x.addEdge(1, 4, 90);
        Checks.due("14", 3, () -> x.parallel(1, 4));
        Checks.due("14 turned", 3, () -> x.parallel(4, 1));
        Checks.due("14 edge 0", 1, () -> x.parallel(0, 1));
        x.removeEdge(7);
        Checks.due("14 present ones alone", 2, () -> x.parallel(1, 4));
        Checks.due("14 none", 0, () -> x.parallel(0, 8));
        Checks.due("14 itself", 0, () -> x.parallel(1, 1));
        Refusals.indexesAreChecked("14", Thicket::parallel);
    }

    private static void promise15() {
        Thicket x = Graphs.bush();
        x.addEdge(4, 1, 9);
        Checks.due("15 same weight, by number", 3, () -> x.lightest(4, 1));
        Checks.due("15 edge 0", 0, () -> x.lightest(1, 0));
        x.addEdge(1, 4, 2);
        Checks.due("15 by weight", 8, () -> x.lightest(4, 1));
        x.removeEdge(8);
        x.removeEdge(3);
        Checks.due("15 present ones alone", 7, () -> x.lightest(1, 4));
        x.removeEdge(7);
        Checks.throwsDue("15 all removed", ABSENT, () -> x.lightest(1, 4));
        Checks.throwsDue("15 none", ABSENT, () -> x.lightest(3, 4));
        Checks.throwsDue("15 itself", ABSENT, () -> x.lightest(1, 1));
        Refusals.indexesAreChecked("15", Thicket::lightest);
    }

    // ---- forest

    private static void promises16And17() {
        Thicket x = Graphs.bush();
        Checks.due("16", 39, x::forestWeight);
        Checks.due("17", 39, x::forestWeightAnew);
        x.addEdge(8, 3, 99);
        x.addEdge(3, 4, 8);
        Checks.due("16 joined and swapped", 137, x::forestWeight);
        Checks.due("17 joined and swapped", 137, x::forestWeightAnew);
        x.removeEdge(8);
        x.removeEdge(7);
        Checks.due("16 removed", 39, x::forestWeight);
        Checks.due("17 removed", 39, x::forestWeightAnew);
        Checks.due("16 most", 190, Graphs.line()::forestWeight);
        Checks.due("17 most", 190, Graphs.line()::forestWeightAnew);
        lastAddedIsFirst("16", Thicket::forestWeight);
        lastAddedIsFirst("17", Thicket::forestWeightAnew);
    }

    private interface Whole {
        Object answer(Thicket x);
    }

    private static void lastAddedIsFirst(String name, Whole call) {
        Thicket x = Graphs.withVertices(4);
        x.addEdge(0, 1, 30);
        x.addEdge(1, 2, 20);
        x.addEdge(2, 0, 10);
        Checks.due(name + " edge 0 goes out", 30, () -> call.answer(x));
        x.addEdge(0, 3, 5);
        x.addEdge(1, 3, 1);
        Checks.due(name + " edge 1 goes out", 16, () -> call.answer(x));
    }

    private static void promise18() {
        Thicket x = Graphs.bush();
        Checks.due("18", 2, x::trees);
        x.addEdge(3, 4, 1);
        Checks.due("18 an edge within a tree", 2, x::trees);
        x.removeEdge(6);
        Checks.due("18 split", 3, x::trees);
        x.addEdge(7, 8, 1);
        Checks.due("18 joined", 2, x::trees);
        x.addVertex(0);
        Checks.due("18 a vertex more", 3, x::trees);
        Checks.due("18 without edges", 20, Graphs.withVertices(20)::trees);
    }

    private static void promise19() {
        Thicket x = Graphs.bush();
        Checks.due("19", 3, () -> x.degree(1));
        Checks.due("19 leaf", 1, () -> x.degree(3));
        Checks.due("19 alone", 0, () -> x.degree(8));
        x.addEdge(3, 4, 50);
        Checks.due("19 edges outside do not count", 1, () -> x.degree(3));
        x.removeEdge(0);
        Checks.due("19 removed", 2, () -> x.degree(1));
        Refusals.indexIsChecked("19", Thicket::degree);
    }

    private static void promise20() {
        Thicket x = Graphs.withVertices(5);
        x.addEdge(2, 4, 1);
        x.addEdge(2, 0, 9);
        x.addEdge(3, 2, 5);
        x.addEdge(1, 0, 5);
        x.addEdge(2, 1, 50);
        Checks.due("20 first", 0, () -> x.neighbour(2, 0));
        Checks.due("20 second", 3, () -> x.neighbour(2, 1));
        Checks.due("20 third", 4, () -> x.neighbour(2, 2));
        Checks.throwsDue("20 beyond", ABSENT, () -> x.neighbour(2, 3));
        Checks.throwsDue("20 below 0", ABSENT, () -> x.neighbour(2, -1));
        Checks.throwsDue("20 greatest", ABSENT, () -> x.neighbour(2, Integer.MAX_VALUE));
        Checks.throwsDue("20 smallest", ABSENT, () -> x.neighbour(2, Integer.MIN_VALUE));
        Refusals.indexIsChecked("20", (y, vertex) -> y.neighbour(vertex, 0));
        Refusals.indexIsChecked("20 index first", (y, vertex) -> y.neighbour(vertex, -1));
    }

    private static void promises21And22() {
        connection("21", Thicket::isConnected);
        connection("22", Thicket::isConnectedByWalk);
    }

    private static void connection(String name, Refusals.TwoVertices call) {
        Thicket x = Graphs.bush();
        Checks.due(name, true, () -> call.answer(x, 3, 7));
        Checks.due(name + " itself", true, () -> call.answer(x, 8, 8));
        Checks.due(name + " other tree", false, () -> call.answer(x, 3, 8));
        Checks.due(name + " other tree, turned", false, () -> call.answer(x, 8, 3));
        x.removeEdge(1);
        Checks.due(name + " split", false, () -> call.answer(x, 3, 7));
        x.addEdge(4, 6, 99);
        Checks.due(name + " joined", true, () -> call.answer(x, 3, 7));
        Checks.due(name + " far", true, () -> call.answer(Graphs.line(), 0, 19));
        Checks.due(name + " vertex 0", true, () -> call.answer(x, 2, 0));
        x.removeEdge(0);
        Checks.due(name + " vertex 0 of another part", false, () -> call.answer(x, 1, 0));
        Refusals.indexesAreChecked(name, call);
    }

    private static void promises23And24() {
        replacement("23", Thicket::replacement);
        replacement("24", Thicket::replacementAnew);
    }

    private static void replacement(String name, Refusals.OneVertex call) {
        Thicket x = Graphs.bush();
        x.addEdge(3, 7, 20);
        x.addEdge(1, 2, 20);
        x.addEdge(3, 6, 19);
        x.addEdge(1, 4, 9);
        Checks.due(name, 9, () -> call.answer(x, 0));
        Checks.due(name + " asked twice", 9, () -> call.answer(x, 0));
        Checks.due(name + " turned side", 7, () -> call.answer(x, 6));
        Checks.due(name + " parallel", 10, () -> call.answer(x, 3));
        Checks.throwsDue(name + " outside", STATE, () -> call.answer(x, 10));
        x.removeEdge(9);
        Checks.due(name + " same weight, by number", 7, () -> call.answer(x, 0));
        x.removeEdge(10);
        Checks.throwsDue(name + " none", ABSENT, () -> call.answer(x, 3));
        Checks.throwsDue(name + " removed", STATE, () -> call.answer(x, 10));
        Checks.due(name + " changes nothing", 'f', () -> x.state(0));
        Checks.due(name + " changes no weight", 39, x::forestWeight);
        x.setWeight(0, 50);
        x.removeEdge(8);
        Checks.due(name + " edge 0", 0, () -> call.answer(x, 7));
        Refusals.edgeIsChecked(name, call);
    }

    // ---- paths

    private static void promise25() {
        Thicket x = Graphs.bush();
        Checks.due("25", 6, () -> x.pathVertices(4, 7));
        Checks.due("25 itself", 1, () -> x.pathVertices(8, 8));
        Checks.due("25 longest", 20, () -> Graphs.line().pathVertices(19, 0));
        Refusals.oneTreeIsAsked("25", Thicket::pathVertices);
    }

    private static void promise26() {
        Thicket x = Graphs.bush();
        int[] path = {4, 1, 0, 2, 5, 7};
        for (int index = 0; index < 6; index++) {
            int at = index;
            Checks.due("26 at " + at, path[at], () -> x.pathVertex(4, 7, at));
            Checks.due("26 turned at " + at, path[5 - at], () -> x.pathVertex(7, 4, at));
        }
        Checks.due("26 itself", 8, () -> x.pathVertex(8, 8, 0));
        Checks.due("26 the longest", 0, () -> Graphs.line().pathVertex(19, 0, 19));
        Checks.throwsDue("26 beyond", ARGUMENT, () -> x.pathVertex(4, 7, 6));
        Checks.throwsDue("26 below 0", ARGUMENT, () -> x.pathVertex(4, 7, -1));
        Checks.throwsDue("26 beyond itself", ARGUMENT, () -> x.pathVertex(8, 8, 1));
        Checks.throwsDue("26 greatest", ARGUMENT, () -> x.pathVertex(4, 7, Integer.MAX_VALUE));
        Refusals.oneTreeIsAsked("26", (y, one, other) -> y.pathVertex(one, other, 0));
        Refusals.oneTreeIsAsked("26 trees before index",
                (y, one, other) -> y.pathVertex(one, other, -1));
    }

    private static void promises27To29() {
        sumOnPath("27", Thicket::pathSum);
        sumOnPath("28", Thicket::pathSumByHeavyPaths);
        sumOnPath("29", Thicket::pathSumByWalk);
    }

    private static void sumOnPath(String name, Refusals.TwoVertices call) {
        Thicket x = Graphs.bush();
        Checks.due(name, 25, () -> call.answer(x, 4, 7));
        Checks.due(name + " turned", 25, () -> call.answer(x, 7, 4));
        Checks.due(name + " itself", 9, () -> call.answer(x, 8, 8));
        x.setValue(0, -50);
        x.addOnPath(0, 7, -2);
        Checks.due(name + " after changes", -34, () -> call.answer(x, 4, 7));
        Checks.due(name + " longest", 210, () -> call.answer(Graphs.line(), 0, 19));
        Refusals.oneTreeIsAsked(name, call);
    }

    private static void promises30And31() {
        lastOnPath("30", Thicket::last);
        lastOnPath("31", Thicket::lastByWalk);
    }

    private static void lastOnPath(String name, Refusals.TwoVertices call) {
        Thicket x = Graphs.bush();
        Checks.due(name + " by weight", 3, () -> call.answer(x, 4, 7));
        Checks.due(name + " by number", 6, () -> call.answer(x, 3, 7));
        Checks.due(name + " turned", 6, () -> call.answer(x, 7, 3));
        Checks.due(name + " one edge", 0, () -> call.answer(x, 1, 0));
        x.setWeight(4, 6);
        Checks.due(name + " in the middle", 4, () -> call.answer(x, 3, 7));
        Checks.due(name + " of many", 18, () -> call.answer(Graphs.line(), 19, 0));
        Checks.throwsDue(name + " itself", UNSUPPORTED, () -> call.answer(x, 3, 3));
        Refusals.oneTreeIsAsked(name, call);
    }

    private static void promise32() {
        Thicket x = Graphs.bush();
        Checks.due("32", 25f / 6f, () -> x.mean(4, 7));
        Checks.due("32 turned", 25f / 6f, () -> x.mean(7, 4));
        Checks.due("32 itself", 9f, () -> x.mean(8, 8));
        Checks.due("32 a half", 1.5f, () -> x.mean(0, 1));
        x.setValue(0, -2);
        x.setValue(1, 2);
        Checks.due("32 nothing", 0f, () -> x.mean(0, 1));
        x.setValue(0, -5);
        Checks.due("32 less than nothing", -1.5f, () -> x.mean(0, 1));
        Refusals.oneTreeIsAsked("32", Thicket::mean);
    }

    // ---- rooted trees

    private static void promise33() {
        Thicket x = Graphs.bush();
        Checks.due("33", 5, () -> x.parent(0, 7));
        Checks.due("33 below the root", 0, () -> x.parent(0, 2));
        Checks.due("33 other root", 2, () -> x.parent(7, 0));
        Checks.throwsDue("33 root", UNSUPPORTED, () -> x.parent(0, 0));
        Checks.throwsDue("33 alone", UNSUPPORTED, () -> x.parent(8, 8));
        Refusals.oneTreeIsAsked("33", Thicket::parent);
    }

    private static void promise34() {
        Thicket x = Graphs.bush();
        Checks.due("34", 3, () -> x.depth(0, 7));
        Checks.due("34 root", 0, () -> x.depth(7, 7));
        Checks.due("34 other root", 5, () -> x.depth(7, 4));
        Checks.due("34 deepest", 19, () -> Graphs.line().depth(0, 19));
        Refusals.oneTreeIsAsked("34", Thicket::depth);
    }

    private interface Climb {
        Object answer(Thicket x, int root, int vertex, int distance);
    }

    private static void promises35And36() {
        climb("35", Thicket::ancestor);
        climb("36", Thicket::ancestorByWalk);
    }

    private static void climb(String name, Climb call) {
        Thicket x = Graphs.bush();
        int[] above = {7, 5, 2, 0, 1, 4};
        for (int distance = 0; distance < 6; distance++) {
            int by = distance;
            Checks.due(name + " by " + by, above[by], () -> call.answer(x, 4, 7, by));
        }
        Checks.throwsDue(name + " above the root", ARGUMENT, () -> call.answer(x, 4, 7, 6));
        Checks.throwsDue(name + " below 0", ARGUMENT, () -> call.answer(x, 4, 7, -1));
        Checks.throwsDue(name + " least", ARGUMENT,
                () -> call.answer(x, 4, 7, Integer.MIN_VALUE));
        Checks.throwsDue(name + " greatest", ARGUMENT,
                () -> call.answer(x, 4, 7, Integer.MAX_VALUE));
        Checks.throwsDue(name + " above the root itself", ARGUMENT, () -> call.answer(x, 4, 4, 1));
        Thicket far = Graphs.line();
        for (int distance = 0; distance < 20; distance++) {
            int by = distance;
            Checks.due(name + " far by " + by, 19 - by, () -> call.answer(far, 0, 19, by));
        }
        Checks.throwsDue(name + " too far", ARGUMENT, () -> call.answer(far, 0, 19, 20));
        Refusals.oneTreeIsAsked(name, (y, root, vertex) -> call.answer(y, root, vertex, 0));
        Refusals.oneTreeIsAsked(name + " trees first",
                (y, root, vertex) -> call.answer(y, root, vertex, -1));
    }

    private static void promises37And38() {
        meeting("37", Thicket::common);
        meeting("38", Thicket::commonByWalk);
    }

    private static void meeting(String name, Climb call) {
        Thicket x = Graphs.bush();
        Checks.due(name, 2, () -> call.answer(x, 0, 7, 6));
        Checks.due(name + " turned", 2, () -> call.answer(x, 0, 6, 7));
        Checks.due(name + " at the root", 0, () -> call.answer(x, 0, 4, 7));
        Checks.due(name + " one above the other", 1, () -> call.answer(x, 0, 1, 4));
        Checks.due(name + " one below the other", 1, () -> call.answer(x, 0, 4, 1));
        Checks.due(name + " itself", 5, () -> call.answer(x, 0, 5, 5));
        Checks.due(name + " other root", 1, () -> call.answer(x, 4, 7, 3));
        Checks.due(name + " the root is one", 7, () -> call.answer(x, 7, 7, 3));
        Checks.due(name + " alone", 8, () -> call.answer(x, 8, 8, 8));
        Thicket far = Graphs.line();
        for (int root = 0; root < 20; root++) {
            int at = root;
            int middle = Math.max(3, Math.min(16, at));
            Checks.due(name + " far " + at, middle, () -> call.answer(far, at, 3, 16));
        }
        Refusals.indexIsChecked(name + " root", (y, vertex) -> call.answer(y, vertex, 0, 0));
        Refusals.indexesAreChecked(name, (y, one, other) -> call.answer(y, 0, one, other));
        Checks.throwsDue(name + " one elsewhere", ABSENT, () -> call.answer(x, 0, 8, 1));
        Checks.throwsDue(name + " other elsewhere", ABSENT, () -> call.answer(x, 0, 1, 8));
        Checks.throwsDue(name + " both elsewhere", ABSENT, () -> call.answer(x, 8, 1, 1));
        Checks.throwsDue(name + " index before trees", INDEX, () -> call.answer(x, 0, 8, 9));
    }

    private static void promise39() {
        Thicket x = Graphs.bush();
        Checks.due("39", 4, () -> x.subtreeSize(0, 2));
        Checks.due("39 root", 8, () -> x.subtreeSize(0, 0));
        Checks.due("39 leaf", 1, () -> x.subtreeSize(0, 7));
        Checks.due("39 other root", 7, () -> x.subtreeSize(7, 5));
        Checks.due("39 alone", 1, () -> x.subtreeSize(8, 8));
        Refusals.oneTreeIsAsked("39", Thicket::subtreeSize);
    }

    private static void promise40() {
        Thicket x = Graphs.bush();
        Checks.due("40", 24, () -> x.subtreeSum(0, 2));
        Checks.due("40 root", 36, () -> x.subtreeSum(0, 0));
        Checks.due("40 leaf", 8, () -> x.subtreeSum(0, 7));
        Checks.due("40 other root", 12, () -> x.subtreeSum(7, 0));
        x.addOnPath(7, 2, -9);
        Checks.due("40 after a change", -3, () -> x.subtreeSum(0, 2));
        Refusals.oneTreeIsAsked("40", Thicket::subtreeSum);
    }

    private static void promise41() {
        Thicket x = Graphs.bush();
        Checks.due("41 most vertices", 2, () -> x.heavyChild(0, 0));
        Checks.due("41 most vertices below", 5, () -> x.heavyChild(0, 2));
        Checks.due("41 lowest number", 3, () -> x.heavyChild(0, 1));
        Checks.due("41 other root", 0, () -> x.heavyChild(3, 1));
        x.removeEdge(6);
        Checks.due("41 as many, lowest number", 1, () -> x.heavyChild(0, 0));
        Checks.throwsDue("41 leaf", UNSUPPORTED, () -> x.heavyChild(0, 3));
        Checks.throwsDue("41 alone", UNSUPPORTED, () -> x.heavyChild(8, 8));
        Refusals.oneTreeIsAsked("41", Thicket::heavyChild);
        higherNumberIsHeavier();
    }

    private static void higherNumberIsHeavier() {
        Thicket x = Graphs.withVertices(6);
        x.addEdge(5, 1, 1);
        x.addEdge(5, 3, 1);
        x.addEdge(3, 0, 1);
        x.addEdge(5, 4, 1);
        x.addEdge(4, 2, 1);
        Checks.due("41 lowest of the heaviest", 3, () -> x.heavyChild(5, 5));
    }

    private static void promise42() {
        Thicket x = Graphs.bush();
        int[] heads = {0, 1, 0, 1, 4, 0, 6, 0};
        for (int vertex = 0; vertex < 8; vertex++) {
            int at = vertex;
            Checks.due("42 of " + at, heads[at], () -> x.head(0, at));
        }
        Checks.due("42 other root", 4, () -> x.head(4, 2));
        Checks.due("42 other root, light", 3, () -> x.head(4, 3));
        Checks.due("42 alone", 8, () -> x.head(8, 8));
        Checks.due("42 a line", 0, () -> Graphs.line().head(0, 19));
        Refusals.oneTreeIsAsked("42", Thicket::head);
    }

    private static void promise43() {
        Thicket x = Graphs.bush();
        Checks.due("43", 4, () -> x.heavyPaths(0));
        Checks.due("43 a leaf as root", 3, () -> x.heavyPaths(7));
        Checks.due("43 alone", 1, () -> x.heavyPaths(8));
        Checks.due("43 a line", 1, () -> Graphs.line().heavyPaths(0));
        Checks.due("43 within a line", 2, () -> Graphs.line().heavyPaths(7));
        Refusals.indexIsChecked("43", Thicket::heavyPaths);
    }

    private static void promise44() {
        Thicket x = Graphs.bush();
        int[] light = {0, 1, 0, 1, 2, 0, 1, 0};
        for (int vertex = 0; vertex < 8; vertex++) {
            int at = vertex;
            Checks.due("44 of " + at, light[at], () -> x.lightEdges(0, at));
        }
        Checks.due("44 other root", 1, () -> x.lightEdges(7, 6));
        Checks.due("44 alone", 0, () -> x.lightEdges(8, 8));
        Refusals.oneTreeIsAsked("44", Thicket::lightEdges);
    }

    private static void promises45And46() {
        longestPath("45", Thicket::diameter);
        longestPath("46", Thicket::diameterByTrying);
    }

    private static void longestPath(String name, Refusals.OneVertex call) {
        Thicket x = Graphs.bush();
        for (int vertex = 0; vertex < 8; vertex++) {
            int at = vertex;
            Checks.due(name + " from " + at, 5, () -> call.answer(x, at));
        }
        Checks.due(name + " alone", 0, () -> call.answer(x, 8));
        x.removeEdge(0);
        Checks.due(name + " of one part", 2, () -> call.answer(x, 4));
        Checks.due(name + " of the other part", 3, () -> call.answer(x, 0));
        Checks.due(name + " of a line", 19, () -> call.answer(Graphs.line(), 7));
        Refusals.indexIsChecked(name, call);
    }
}
