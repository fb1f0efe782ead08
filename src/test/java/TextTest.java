/** Promises 18 to 22: the text, its faults, and the nodes that are built from it. */
public final class TextTest {
    private static final int BAD_VALUE = GradeGraph.BAD_VALUE, NOT_POSSIBLE = GradeGraph.NOT_POSSIBLE;
    private static final int FULL = GradeGraph.FULL, NONE = GradeGraph.NONE;
    private static final Checks CHECKS = new Checks();

    public static void main(String[] arguments) {
        promise18Append();
        promise19ClearText();
        promise20FaultPositionOfForms();
        promise20FaultPositionOfNumbers();
        promise20FaultPositionOfSigns();
        promise20FaultPositionOfRanges();
        promise20FaultPositionOfNodes();
        promise20And21TooDeep();
        promise21FaultDepth();
        promise22Build();
        promise22BuildOfEveryKind();
        promise22BuildOnNodes();
        promise22BuildFull();
        promise22BuildAsksForNothing();
        CHECKS.finish("TextTest");
    }

    private static void due(String call, long got, long want) {
        CHECKS.due(call, got, want);
    }

    /** The fault position and depth of a text, when there are some nodes. */
    private static void fault(int nodes, String text, int position, int depth) {
        GradeGraph graph = new GradeGraph();
        for (int node = 0; node < nodes; node++) {
            graph.addNode(GradeGraph.SOURCE);
        }
        Checks.write(graph, text);
        due("20: faultPosition() of " + text, graph.faultPosition(), position);
        due("21: faultDepth() of " + text, graph.faultDepth(), depth);
        if (position == NONE) {
            due("22: build() of " + text, graph.build() >= 0 ? 1 : 0, 1);
        } else {
            due("22: build() of " + text, graph.build(), NOT_POSSIBLE);
            due("22: nodes() after " + text, graph.nodes(), nodes);
        }
        due("22: the text stays", graph.clearText(), text.length());
    }

    private static void right(String text) {
        fault(1, text, NONE, NONE);
    }

    private static void promise18Append() {
        GradeGraph graph = new GradeGraph();
        due("18: append(-1)", graph.append(-1), BAD_VALUE);
        due("18: append(128)", graph.append(128), BAD_VALUE);
        due("18: append(0)", graph.append(0), 1);
        due("18: append(127)", graph.append(127), 2);
        for (int length = 3; length <= 80; length++) {
            due("18: append('s')", graph.append('s'), length);
        }
        due("18: append() to 80", graph.append('s'), FULL);
        due("18: a wrong letter comes first", graph.append(128), BAD_VALUE);
        due("18: the text has 80", graph.clearText(), 80);
    }

    private static void promise19ClearText() {
        GradeGraph graph = new GradeGraph();
        due("19: clearText()", graph.clearText(), 0);
        Checks.write(graph, "s(1)");
        due("19: clearText()", graph.clearText(), 4);
        due("19: clearText()", graph.clearText(), 0);
        due("19: append('s')", graph.append('s'), 1);
        due("19: the old text is gone", graph.faultPosition(), 1);
    }

    private static void promise20FaultPositionOfForms() {
        fault(1, "", 0, 0);
        fault(1, "s", 1, 0);
        fault(1, "s(", 2, 1);
        fault(1, "s(1", 3, 1);
        right("s(1)");
        fault(1, "s(1))", 4, 0);
        fault(1, "s(1)s", 4, 0);
        fault(1, "s(1,2)", 3, 1);
        fault(1, "s()", 2, 1);
        fault(1, "s 1)", 1, 0);
        fault(1, " s(1)", 0, 0);
        fault(1, "s( 1)", 2, 1);
        fault(1, "x(1)", 0, 0);
        fault(1, "S(1)", 0, 0);
        fault(1, "(", 0, 0);
        fault(1, "1", 0, 0);
        right("g(s(1),2)");
        fault(1, "g(s(1))", 6, 1);
        fault(1, "g(s(1),", 7, 1);
        fault(1, "g(s(1),)", 7, 1);
        fault(1, "g(2,s(1))", 2, 1);
        fault(1, "g(s(1),2,3)", 8, 1);
        right("t(s(1),2)");
        right("i(s(1))");
        fault(1, "i()", 2, 1);
        fault(1, "i(s(1),1)", 6, 1);
        fault(1, "i(s(1)", 6, 1);
        right("l(s(1),2)");
        fault(1, "l(s(1))", 6, 1);
        right("k(s(1),2,3,4,5)");
        fault(1, "k(s(1),2,3,4)", 12, 1);
        fault(1, "k(s(1),2,3,4,5,6)", 14, 1);
        right("b(s(1),s(2),s(3))");
        fault(1, "b(s(1),s(2))", 11, 1);
        fault(1, "b(s(1),s(2),s(3),s(4))", 16, 1);
        fault(1, "b(s(1)s(2),s(3))", 6, 1);
        fault(1, "b(s(1),2,s(3))", 7, 1);
        right("b(g(n(0),1),b(n(0),n(0),s(3)),i(n(0)))");
        fault(1, "b(g(n(0),1),b(n(0),n(0)s(3)),i(n(0)))", 23, 2);
    }

    private static void promise20FaultPositionOfNumbers() {
        right("s(0)");
        right("s(9)");
        right("s(10)");
        right("s(999)");
        fault(1, "s(1000)", 5, 1);
        fault(1, "s(1000", 5, 1);
        fault(1, "s(00)", 3, 1);
        fault(1, "s(01)", 3, 1);
        fault(1, "s(0", 3, 1);
        fault(1, "s(99", 4, 1);
        fault(1, "s(999", 5, 1);
        fault(1, "s(9x9)", 3, 1);
        fault(1, "s(/)", 2, 1);
        fault(1, "s(:)", 2, 1);
        fault(1, "s(-1)", 2, 1);
    }

    private static void promise20FaultPositionOfSigns() {
        right("t(s(0),-1)");
        right("t(s(0),-255)");
        right("t(s(0),0)");
        fault(1, "t(s(0),-0)", 8, 1);
        fault(1, "t(s(0),-0", 8, 1);
        fault(1, "t(s(0),-01)", 8, 1);
        fault(1, "t(s(0),-", 8, 1);
        fault(1, "t(s(0),-)", 8, 1);
        fault(1, "t(s(0),--1)", 8, 1);
        fault(1, "t(s(0),+1)", 7, 1);
        fault(1, "t(s(0),-256)", 8, 1);
        fault(1, "t(s(0),-256", 8, 1);
        fault(1, "t(s(0),-2550)", 11, 1);
        fault(1, "g(s(0),-1)", 7, 1);
        fault(1, "l(s(0),-1)", 7, 1);
        fault(1, "k(s(0),0,-1,0,0)", 9, 1);
    }

    private static void promise20FaultPositionOfRanges() {
        right("g(s(0),64)");
        fault(1, "g(s(0),65)", 7, 1);
        fault(1, "g(s(0),65", 7, 1);
        fault(1, "g(s(0),6", 8, 1);
        fault(1, "g(s(0),640)", 7, 1);
        fault(1, "g(s(0),6400)", 7, 1);
        fault(1, "g(s(0),064)", 8, 1);
        right("t(s(0),255)");
        fault(1, "t(s(0),256)", 7, 1);
        fault(1, "t(s(0),2550)", 10, 1);
        fault(1, "t(s(0),2560)", 7, 1);
        right("l(s(0),3)");
        fault(1, "l(s(0),4)", 7, 1);
        fault(1, "l(s(0),10)", 7, 1);
        right("k(s(0),2,255,255,99)");
        fault(1, "k(s(0),3,0,0,0)", 7, 1);
        fault(1, "k(s(0),0,256,0,0)", 9, 1);
        fault(1, "k(s(0),0,0,256,0)", 11, 1);
        fault(1, "k(s(0),0,0,0,100)", 13, 1);
        right("k(s(0),0,9,8,0)");
    }

    private static void promise20FaultPositionOfNodes() {
        fault(0, "n(0)", 2, 1);
        fault(0, "n(", 2, 1);
        fault(1, "n(0)", NONE, NONE);
        fault(1, "n(1)", 2, 1);
        fault(1, "n(00)", 3, 1);
        fault(0, "n(00)", 2, 1);
        fault(12, "n(11)", NONE, NONE);
        fault(12, "n(1)", NONE, NONE);
        fault(12, "n(12)", 2, 1);
        fault(12, "n(11", 4, 1);
        fault(12, "n(110)", 2, 1);
        fault(2, "n(10)", 2, 1);
        fault(2, "n(s(1))", 2, 1);
        // the nodes that the text adds are not there yet
        fault(0, "b(s(1),n(0),s(2))", 9, 2);
        GradeGraph graph = new GradeGraph();
        Checks.write(graph, "i(n(0))");
        due("20: without nodes", graph.faultPosition(), 4);
        graph.addNode(GradeGraph.SOURCE);
        due("20: with a node", graph.faultPosition(), NONE);
        graph.clear();
        due("20: without it again", graph.faultPosition(), 4);
    }

    private static void promise20And21TooDeep() {
        right("i(i(i(i(i(s(0))))))");
        right("i(i(i(i(i(n(0))))))");
        fault(1, "i(i(i(i(i(i(s(0)))))))", 12, 6);
        fault(1, "i(i(i(i(i(i(", 12, 6);
        fault(1, "i(i(i(i(i(i(x", 12, 6);
        fault(1, "i(i(i(i(i(i(n(0)))))))", 12, 6);
        fault(1, "i(i(i(i(i(s", 11, 5);
        fault(1, "b(s(0),s(0),i(i(i(i(i(s(0))))))", 22, 6);
        fault(1, "b(i(i(i(i(s(0))))),s(0),i(i(i(i(s(1)))))", 40, 1);
    }

    private static void promise21FaultDepth() {
        GradeGraph graph = new GradeGraph();
        due("21: of nothing", graph.faultDepth(), 0);
        Checks.write(graph, "i(i(s(1");
        due("21: without another call", graph.faultDepth(), 3);
        graph.append(')');
        due("21: one is closed", graph.faultDepth(), 2);
        Checks.write(graph, "s(1)");
        due("21: no fault any more", graph.faultDepth(), NONE);
        fault(1, "i(i(s(1", 7, 3);
        fault(1, "i(i(s(1)", 8, 2);
        fault(1, "i(i(s(1))", 9, 1);
        fault(1, "i(i(s(1)))x", 10, 0);
        fault(1, "i(i(s(x)))", 6, 3);
        fault(1, "g(i(s(1)),99)", 10, 1);
        fault(1, "g(i(s(1))((99)", 9, 1);
    }

    private static void nodeIs(String what, GradeGraph graph, int node, int kind, int... more) {
        due("22: " + what + ": kind of " + node, graph.node(node, 0), kind);
        due("22: " + what + ": first frame of " + node, graph.node(node, 1), 0);
        due("22: " + what + ": last frame of " + node, graph.node(node, 2), 99);
        int inputs = kind == GradeGraph.BLEND ? 3 : kind == GradeGraph.SOURCE ? 0 : 1;
        for (int index = 0; index < more.length; index++) {
            boolean isInput = index < inputs;
            String call = "22: " + what + ": " + (isInput ? "input" : "parameter") + " of " + node;
            due(call, isInput ? graph.input(node, index) : graph.parameter(node, index - inputs), more[index]);
        }
    }

    private static void promise22Build() {
        GradeGraph graph = new GradeGraph();
        due("22: build() of nothing", graph.build(), NOT_POSSIBLE);
        Checks.write(graph, "b(i(s(1)),l(b(s(2),s(3),s(4)),2),s(5))");
        due("22: build()", graph.build(), 8);
        due("22: nodes()", graph.nodes(), 9);
        String what = "from the left to the right";
        nodeIs(what, graph, 0, GradeGraph.SOURCE, 1);
        nodeIs(what, graph, 1, GradeGraph.INVERT, 0);
        nodeIs(what, graph, 2, GradeGraph.SOURCE, 2);
        nodeIs(what, graph, 3, GradeGraph.SOURCE, 3);
        nodeIs(what, graph, 4, GradeGraph.SOURCE, 4);
        nodeIs(what, graph, 5, GradeGraph.BLEND, 2, 3, 4);
        nodeIs(what, graph, 6, GradeGraph.BLUR, 5, 2);
        nodeIs(what, graph, 7, GradeGraph.SOURCE, 5);
        nodeIs(what, graph, 8, GradeGraph.BLEND, 1, 6, 7);
        due("22: the text stays", graph.clearText(), 38);
    }

    private static void promise22BuildOfEveryKind() {
        String what = "every kind";
        GradeGraph graph = Checks.built("g(s(999),64)");
        nodeIs(what, graph, 0, GradeGraph.SOURCE, 999);
        nodeIs(what, graph, 1, GradeGraph.GAIN, 0, 64, 64, 64);
        graph = Checks.built("t(s(0),-255)");
        nodeIs(what, graph, 0, GradeGraph.SOURCE, 0);
        nodeIs(what, graph, 1, GradeGraph.SHIFT, 0, -255, -255, -255);
        graph = Checks.built("t(g(s(12),0),255)");
        nodeIs(what, graph, 1, GradeGraph.GAIN, 0, 0, 0, 0);
        nodeIs(what, graph, 2, GradeGraph.SHIFT, 1, 255, 255, 255);
        graph = Checks.built("l(s(1),3)");
        nodeIs(what, graph, 1, GradeGraph.BLUR, 0, 3);
        graph = Checks.built("k(l(s(1),0),2,254,13,98)");
        nodeIs(what, graph, 1, GradeGraph.BLUR, 0, 0);
        nodeIs(what, graph, 2, GradeGraph.KEY, 1, 2, 254, 13, 98);
    }

    private static void promise22BuildOnNodes() {
        GradeGraph graph = Checks.built("i(s(7))");
        graph.setRange(1, 3, 4);
        Checks.write(graph, "n(1)");
        due("22: a node that is there", graph.build(), 1);
        due("22: none is added", graph.nodes(), 2);
        due("22: it stays as it is", graph.node(1, 1), 3);
        Checks.write(graph, "b(n(1),i(n(0)),n(1))");
        due("22: nodes on these", graph.build(), 3);
        nodeIs("on nodes", graph, 2, GradeGraph.INVERT, 0);
        nodeIs("on nodes", graph, 3, GradeGraph.BLEND, 1, 2, 1);
        due("22: again", graph.build(), 5);
        nodeIs("again", graph, 4, GradeGraph.INVERT, 0);
        nodeIs("again", graph, 5, GradeGraph.BLEND, 1, 4, 1);
        due("22: order", graph.node(5, 4), 5);
        due("22: dependents", graph.node(0, 3), 6);
        due("22: depth", graph.node(5, 5), 2);
        graph.clear();
        Checks.write(graph, "l(s(7),2)");
        graph.build();
        nodeIs("nothing of an older node is left", graph, 1, GradeGraph.BLUR, 0, 2);
    }

    private static void promise22BuildFull() {
        GradeGraph graph = Checks.built("b(b(s(1),s(2),s(3)),b(s(4),s(5),s(6)),s(7))");
        due("22: ten nodes", graph.nodes(), 10);
        Checks.write(graph, "i(i(s(1)))");
        due("22: thirteen nodes", graph.build(), FULL);
        due("22: none is added", graph.nodes(), 10);
        Checks.write(graph, "i(i(s(1))");
        due("22: a fault comes first", graph.build(), NOT_POSSIBLE);
        Checks.write(graph, "i(i(n(9)))");
        due("22: twelve nodes", graph.build(), 11);
        due("22: thirteen nodes", graph.build(), FULL);
        Checks.write(graph, "n(11)");
        due("22: none more", graph.build(), 11);
        graph = new GradeGraph();
        Checks.write(graph, "b(b(s(0),s(0),s(0)),b(s(0),s(0),s(0)),b(b(s(0),s(0),s(0)),s(0),b(s(0),s(0),s(0))");
        due("22: a text of 80 that ends too early", graph.faultPosition(), 80);
        Checks.write(graph, "b(b(s(0),s(0),s(0)),b(s(0),s(0),s(0)),b(b(s(0),s(0),s(0)),s(0),s(0)))");
        due("22: sixteen nodes at once", graph.build(), FULL);
        due("22: none is added", graph.nodes(), 0);
        Checks.write(graph, "b(b(s(0),s(0),s(0)),b(s(0),s(0),s(0)),i(i(s(0))))");
        due("22: twelve nodes at once", graph.build(), 11);
    }

    private static void promise22BuildAsksForNothing() {
        GradeGraph graph = Checks.built("i(s(7))");
        graph.value(1, 0, 0, 0, 0);
        Checks.write(graph, "i(n(1))");
        graph.build();
        due("22: the pictures stay", graph.count(0), 2);
        due("22: no hit", graph.count(1), 0);
        due("22: no miss", graph.count(2), 2);
        due("22: none is dropped", graph.count(3), 0);
        due("22: none is void", graph.count(4), 0);
    }
}
