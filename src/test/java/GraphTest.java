/** Promises 1 to 10: a new object, and the nodes. */
public final class GraphTest {
    private static final int BAD_INDEX = GradeGraph.BAD_INDEX, BAD_VALUE = GradeGraph.BAD_VALUE;
    private static final int NOT_POSSIBLE = GradeGraph.NOT_POSSIBLE, FULL = GradeGraph.FULL, NONE = GradeGraph.NONE;
    private static final int SOURCE = GradeGraph.SOURCE, GAIN = GradeGraph.GAIN, SHIFT = GradeGraph.SHIFT;
    private static final int INVERT = GradeGraph.INVERT, BLUR = GradeGraph.BLUR, KEY = GradeGraph.KEY, BLEND = GradeGraph.BLEND;
    private static final Checks CHECKS = new Checks();

    public static void main(String[] arguments) {
        promise1NewObject();
        promise2Clear();
        promise3AddNode();
        promise4Connect();
        promise4ConnectMakesVoid();
        promise5Set();
        promise5SetMakesVoid();
        promise6SetRange();
        promise6SetRangeMakesVoid();
        promise7Nodes();
        promise8Node();
        promise8NodeOrder();
        promise8NodeDepth();
        promise9Input();
        promise10Parameter();
        CHECKS.finish("GraphTest");
    }

    private static void due(String call, long got, long want) {
        CHECKS.due(call, got, want);
    }

    private static void promise1NewObject() {
        GradeGraph graph = new GradeGraph();
        due("1: nodes()", graph.nodes(), 0);
        for (int what = 0; what < 5; what++) {
            due("1: count(" + what + ")", graph.count(what), 0);
        }
        due("1: faultPosition()", graph.faultPosition(), 0);
        due("1: clearText()", graph.clearText(), 0);
        due("1: restore(0)", graph.restore(0), NOT_POSSIBLE);
        due("1: restore(1)", graph.restore(1), NOT_POSSIBLE);
        due("1: setRoom(20)", graph.setRoom(20), 16);
        new GradeGraph().addNode(SOURCE);
        due("1: nodes() when another object has one", graph.nodes(), 0);
    }

    private static void promise2Clear() {
        GradeGraph graph = new GradeGraph();
        due("2: clear() of nothing", graph.clear(), 0);
        graph = Checks.built("i(s(3))");
        graph.save(1);
        graph.setRoom(30);
        graph.value(1, 0, 0, 0, 0);
        graph.value(1, 0, 0, 0, 0);
        graph.set(1, 0, 0);
        graph.connect(1, 0, 0);
        due("2: clear()", graph.clear(), 2);
        due("2: nodes() then", graph.nodes(), 0);
        due("2: no picture is kept", graph.count(0), 0);
        due("2: hits stay", graph.count(1), 1);
        due("2: misses stay", graph.count(2), 2);
        due("2: none was dropped", graph.count(3), 0);
        due("2: the void ones stay", graph.count(4), 1);
        due("2: the room stays", graph.setRoom(16), 30);
        due("2: the slots stay", graph.restore(1), 2);
        due("2: the slots' nodes stay", graph.node(1, 0), INVERT);
        due("2: the text stays", graph.clearText(), 7);
        graph.clear();
        graph.addNode(KEY);
        due("2: a number is used again", graph.node(0, 0), KEY);
        due("2: nothing is kept of the old node", graph.isCached(0, 0), 0);
    }

    private static void promise3AddNode() {
        GradeGraph graph = new GradeGraph();
        due("3: addNode(-1)", graph.addNode(-1), BAD_VALUE);
        due("3: addNode(7)", graph.addNode(7), BAD_VALUE);
        for (int number = 0; number < 12; number++) {
            due("3: addNode()", graph.addNode(number % 7), number);
            due("3: its kind", graph.node(number, 0), number % 7);
            due("3: its first frame", graph.node(number, 1), 0);
            due("3: its last frame", graph.node(number, 2), 99);
        }
        due("3: addNode() to 12", graph.addNode(SOURCE), FULL);
        due("3: a kind that is none comes first", graph.addNode(7), BAD_VALUE);
        due("3: nodes()", graph.nodes(), 12);
        graph.setRange(0, 3, 4);
        graph.set(0, 0, 9);
        graph.connect(1, 0, 11);
        graph.clear();
        graph.addNode(SOURCE);
        graph.addNode(GAIN);
        due("3: the range at first", graph.node(0, 1), 0);
        due("3: the range at first", graph.node(0, 2), 99);
        due("3: the parameter at first", graph.parameter(0, 0), 0);
        due("3: without an input", graph.input(1, 0), NONE);
        due("3: its place", graph.node(1, 4), 1);
        due("3: its depth", graph.node(1, 5), 0);
        graph.clear();
        graph.addNode(BLEND);
        for (int input = 0; input < 3; input++) {
            due("3: without inputs", graph.input(0, input), NONE);
        }
    }

    private static void promise4Connect() {
        GradeGraph graph = new GradeGraph();
        graph.addNode(SOURCE);
        graph.addNode(BLEND);
        graph.addNode(GAIN);
        graph.addNode(BLEND);
        due("4: connect(1, 0, 0)", graph.connect(1, 0, 0), 0);
        due("4: connect(1, 2, 0)", graph.connect(1, 2, 0), 0);
        due("4: connect(2, 0, 1)", graph.connect(2, 0, 1), 0);
        due("4: input(1, 0)", graph.input(1, 0), 0);
        due("4: input(1, 1)", graph.input(1, 1), NONE);
        due("4: input(1, 2)", graph.input(1, 2), 0);
        due("4: no such node", graph.connect(4, 0, 0), BAD_INDEX);
        due("4: no such node", graph.connect(-1, 0, 0), BAD_INDEX);
        due("4: a source has no input", graph.connect(0, 0, 1), BAD_INDEX);
        due("4: a gain has one input", graph.connect(2, 1, 0), BAD_INDEX);
        due("4: a blend has three inputs", graph.connect(1, 3, 0), BAD_INDEX);
        due("4: no such input", graph.connect(1, -1, 0), BAD_INDEX);
        due("4: no such node to connect with", graph.connect(1, 0, 4), BAD_INDEX);
        due("4: no such node to connect with", graph.connect(1, 0, -1), BAD_INDEX);
        due("4: other errors are no nodes", graph.connect(1, 0, GradeGraph.FULL), BAD_INDEX);
        due("4: with itself", graph.connect(1, 1, 1), NOT_POSSIBLE);
        due("4: in a circle", graph.connect(1, 1, 2), NOT_POSSIBLE);
        due("4: the wrong number comes first", graph.connect(1, 3, 2), BAD_INDEX);
        due("4: in place of another", graph.connect(1, 0, 3), 0);
        due("4: input(1, 0)", graph.input(1, 0), 3);
        due("4: in a circle of three", graph.connect(3, 1, 2), NOT_POSSIBLE);
        due("4: with none", graph.connect(1, 0, NONE), 0);
        due("4: no circle any more", graph.connect(3, 1, 2), 0);
        due("4: a circle by another input", graph.connect(1, 0, 3), NOT_POSSIBLE);
        due("4: input(1, 0)", graph.input(1, 0), NONE);
    }

    private static void promise4ConnectMakesVoid() {
        // node 1 is a blend of source 0, in frames 3 to 5, and node 2 inverts it
        GradeGraph graph = Checks.built("s(1)");
        graph.addNode(BLEND);
        graph.addNode(INVERT);
        graph.connect(1, 0, 0);
        graph.connect(2, 0, 1);
        graph.setRange(1, 3, 5);
        graph.value(2, 4, 0, 0, 0);
        graph.value(2, 5, 0, 0, 0);
        graph.value(2, 6, 0, 0, 0);
        due("4: nine pictures", graph.count(0), 9);
        due("4: another input concerns the range", graph.connect(1, 2, 0), 4);
        due("4: those of the range are void", graph.isCached(1, 4) + graph.isCached(2, 5), 0);
        due("4: others stay", graph.isCached(1, 6) + graph.isCached(2, 6), 2);
        due("4: what it does not depend on stays", graph.isCached(0, 4), 1);
        graph.value(2, 4, 0, 0, 0);
        due("4: also if it was so before", graph.connect(1, 2, 0), 2);
        due("4: input 0 concerns all frames", graph.connect(1, 0, 0), 2);
        due("4: that is frame 6 here", graph.isCached(1, 6), 0);
        graph.value(2, 4, 0, 0, 0);
        due("4: none for input 1", graph.connect(1, 1, NONE), 2);
        due("4: all void ones", graph.count(4), 10);
        due("4: none was dropped", graph.count(3), 0);
    }

    private static void promise5Set() {
        GradeGraph graph = new GradeGraph();
        for (int kind = 0; kind < 7; kind++) {
            graph.addNode(kind);
        }
        limits(graph, SOURCE, 0, 0, 999);
        for (int channel = 0; channel < 3; channel++) {
            limits(graph, GAIN, channel, 0, 64);
            limits(graph, SHIFT, channel, -255, 255);
        }
        limits(graph, BLUR, 0, 0, 3);
        limits(graph, KEY, 0, 0, 2);
        limits(graph, KEY, 1, 0, 255);
        limits(graph, KEY, 2, 0, 255);
        limits(graph, KEY, 3, 0, 99);
        int[] numbers = {1, 3, 3, 0, 1, 4, 0};
        for (int kind = 0; kind < 7; kind++) {
            due("5: set(" + kind + ", -1, 0)", graph.set(kind, -1, 0), BAD_INDEX);
            due("5: a parameter too many of kind " + kind, graph.set(kind, numbers[kind], 0), BAD_INDEX);
            due("5: the wrong index comes first", graph.set(kind, numbers[kind], 5000), BAD_INDEX);
        }
        due("5: no such node", graph.set(7, 0, 0), BAD_INDEX);
        due("5: no such node", graph.set(-1, 0, 5000), BAD_INDEX);
    }

    private static void limits(GradeGraph graph, int node, int parameter, int lowest, int highest) {
        String call = "5: set(" + node + ", " + parameter + ", ";
        due(call + lowest + ")", graph.set(node, parameter, lowest), 0);
        due("5: what is set", graph.parameter(node, parameter), lowest);
        due(call + highest + ")", graph.set(node, parameter, highest), 0);
        due("5: what is set", graph.parameter(node, parameter), highest);
        due(call + "too little)", graph.set(node, parameter, lowest - 1), BAD_VALUE);
        due(call + "too much)", graph.set(node, parameter, highest + 1), BAD_VALUE);
        due("5: what stays set", graph.parameter(node, parameter), highest);
    }

    private static void promise5SetMakesVoid() {
        GradeGraph graph = Checks.built("i(g(s(1),3))");
        graph.addNode(INVERT);
        graph.connect(3, 0, 0);
        graph.setRange(1, 10, 20);
        int[] frames = {9, 10, 20, 21};
        for (int frame : frames) {
            graph.value(2, frame, 0, 0, 0);
            graph.value(3, frame, 0, 0, 0);
        }
        due("5: pictures", graph.count(0), 16);
        due("5: set() in the range", graph.set(1, 0, 4), 4);
        due("5: in frame 9", graph.isCached(1, 9) + graph.isCached(2, 9), 2);
        due("5: in frame 10", graph.isCached(1, 10) + graph.isCached(2, 10), 0);
        due("5: in frame 20", graph.isCached(1, 20) + graph.isCached(2, 20), 0);
        due("5: in frame 21", graph.isCached(1, 21) + graph.isCached(2, 21), 2);
        due("5: beside it", graph.isCached(3, 10) + graph.isCached(0, 10), 2);
        graph.value(2, 10, 0, 0, 0);
        due("5: also with the same value", graph.set(1, 0, 4), 2);
        due("5: nothing is there any more", graph.set(1, 0, 4), 0);
        due("5: a source concerns all", graph.set(0, 0, 5), 12);
        due("5: all void ones", graph.count(4), 18);
    }

    private static void promise6SetRange() {
        GradeGraph graph = Checks.built("s(1)");
        due("6: setRange(0, 0, 0)", graph.setRange(0, 0, 0), 0);
        due("6: first frame", graph.node(0, 1), 0);
        due("6: last frame", graph.node(0, 2), 0);
        due("6: setRange(0, 99, 99)", graph.setRange(0, 99, 99), 0);
        due("6: setRange(0, 7, 90)", graph.setRange(0, 7, 90), 0);
        due("6: setRange(1, 0, 0)", graph.setRange(1, 0, 0), BAD_INDEX);
        due("6: setRange(-1, 0, 100)", graph.setRange(-1, 0, 100), BAD_INDEX);
        due("6: setRange(0, -1, 5)", graph.setRange(0, -1, 5), BAD_VALUE);
        due("6: setRange(0, 5, 4)", graph.setRange(0, 5, 4), BAD_VALUE);
        due("6: setRange(0, 5, 100)", graph.setRange(0, 5, 100), BAD_VALUE);
        due("6: setRange(0, 100, 100)", graph.setRange(0, 100, 100), BAD_VALUE);
        due("6: first frame stays", graph.node(0, 1), 7);
        due("6: last frame stays", graph.node(0, 2), 90);
    }

    private static void promise6SetRangeMakesVoid() {
        GradeGraph graph = Checks.built("i(s(1))");
        for (int frame = 0; frame < 8; frame++) {
            graph.value(1, frame, 0, 0, 0);
        }
        due("6: sixteen pictures", graph.count(0), 16);
        due("6: frames 0 and 1 leave it, of a source too", graph.setRange(0, 2, 99), 4);
        due("6: frames 6 and 7 leave it", graph.setRange(1, 0, 5), 2);
        due("6: frame 6 of what it does not concern", graph.isCached(0, 6), 1);
        due("6: frame 6", graph.isCached(1, 6), 0);
        due("6: from 0 to 5 to 4 to 99", graph.setRange(1, 4, 99), 2);
        due("6: frames 4 and 5 are in both", graph.isCached(1, 4) + graph.isCached(1, 5), 2);
        due("6: frames 2 and 3 are in one", graph.isCached(1, 2) + graph.isCached(1, 3), 0);
        due("6: the same range", graph.setRange(1, 4, 99), 0);
        due("6: ranges apart", graph.setRange(1, 0, 3), 2);
        due("6: all void ones", graph.count(4), 10);
    }

    private static void promise7Nodes() {
        GradeGraph graph = new GradeGraph();
        due("7: nodes()", graph.nodes(), 0);
        graph.addNode(KEY);
        graph.addNode(9);
        due("7: nodes()", graph.nodes(), 1);
    }

    private static void promise8Node() {
        GradeGraph graph = Checks.built("b(i(s(1)),s(2),k(s(3),0,0,0,0))");
        int[] kinds = {SOURCE, INVERT, SOURCE, SOURCE, KEY, BLEND};
        int[] dependents = {3, 2, 2, 3, 2, 1};
        int[] depths = {0, 1, 0, 0, 1, 2};
        graph.setRange(3, 4, 6);
        for (int node = 0; node < 6; node++) {
            due("8: kind of " + node, graph.node(node, 0), kinds[node]);
            due("8: first frame of " + node, graph.node(node, 1), node == 3 ? 4 : 0);
            due("8: last frame of " + node, graph.node(node, 2), node == 3 ? 6 : 99);
            due("8: dependents of " + node, graph.node(node, 3), dependents[node]);
            due("8: place of " + node, graph.node(node, 4), node);
            due("8: depth of " + node, graph.node(node, 5), depths[node]);
        }
        due("8: node(6, 0)", graph.node(6, 0), BAD_INDEX);
        due("8: node(-1, 9)", graph.node(-1, 9), BAD_INDEX);
        due("8: node(0, 6)", graph.node(0, 6), BAD_VALUE);
        due("8: node(0, -1)", graph.node(0, -1), BAD_VALUE);
    }

    private static void promise8NodeOrder() {
        GradeGraph graph = new GradeGraph();
        for (int node = 0; node < 5; node++) {
            graph.addNode(BLEND);
        }
        // 0 behind 4 and 2, 2 behind 3: first 1, then 3, 2, 4 and 0
        graph.connect(0, 1, 4);
        graph.connect(0, 2, 2);
        graph.connect(2, 0, 3);
        int[] places = {4, 0, 2, 1, 3};
        int[] dependents = {1, 1, 2, 3, 2};
        int[] depths = {2, 0, 1, 0, 0};
        for (int node = 0; node < 5; node++) {
            due("8: place of " + node, graph.node(node, 4), places[node]);
            due("8: dependents of " + node, graph.node(node, 3), dependents[node]);
            due("8: depth of " + node, graph.node(node, 5), depths[node]);
        }
        graph.connect(0, 1, NONE);
        due("8: place of 0 without 4", graph.node(0, 4), 3);
        due("8: place of 4 then", graph.node(4, 4), 4);
    }

    private static void promise8NodeDepth() {
        GradeGraph graph = new GradeGraph();
        for (int node = 0; node < 12; node++) {
            graph.addNode(BLEND);
        }
        for (int node = 0; node < 11; node++) {
            for (int input = 0; input < 3; input++) {
                graph.connect(node, input, node + 1);
            }
        }
        for (int node = 0; node < 12; node++) {
            due("8: place of " + node, graph.node(node, 4), 11 - node);
            due("8: depth of " + node, graph.node(node, 5), 11 - node);
            due("8: dependents of " + node, graph.node(node, 3), node + 1);
        }
        due("8: from the end to the start", graph.connect(11, 0, 0), NOT_POSSIBLE);
    }

    private static void promise9Input() {
        GradeGraph graph = new GradeGraph();
        int[] inputs = {0, 1, 1, 1, 1, 1, 3};
        for (int kind = 0; kind < 7; kind++) {
            graph.addNode(kind);
            for (int input = 0; input < inputs[kind]; input++) {
                due("9: input(" + kind + ", " + input + ")", graph.input(kind, input), NONE);
            }
            due("9: an input too many", graph.input(kind, inputs[kind]), BAD_INDEX);
            due("9: input -1", graph.input(kind, -1), BAD_INDEX);
        }
        graph.connect(6, 1, 5);
        due("9: input(6, 0)", graph.input(6, 0), NONE);
        due("9: input(6, 1)", graph.input(6, 1), 5);
        due("9: input(7, 0)", graph.input(7, 0), BAD_INDEX);
        due("9: input(-1, 0)", graph.input(-1, 0), BAD_INDEX);
    }

    private static void promise10Parameter() {
        GradeGraph graph = new GradeGraph();
        int[][] atFirst = {{0}, {16, 16, 16}, {0, 0, 0}, {}, {1}, {0, 0, 255, 0}, {}};
        for (int kind = 0; kind < 7; kind++) {
            graph.addNode(kind);
            int number = atFirst[kind].length;
            for (int parameter = 0; parameter < number; parameter++) {
                String call = "10: parameter(" + kind + ", " + parameter + ")";
                due(call, graph.parameter(kind, parameter), atFirst[kind][parameter]);
            }
            due("10: a parameter too many", graph.parameter(kind, number), BAD_INDEX);
            due("10: parameter -1", graph.parameter(kind, -1), BAD_INDEX);
        }
        graph.set(2, 1, -7);
        due("10: parameter(2, 0)", graph.parameter(2, 0), 0);
        due("10: parameter(2, 1)", graph.parameter(2, 1), -7);
        due("10: parameter(7, 0)", graph.parameter(7, 0), BAD_INDEX);
        due("10: parameter(-1, 0)", graph.parameter(-1, 0), BAD_INDEX);
    }
}
