/** The sentences under "Nodes" and "Order" and of promises 1 to 10 that name an edge: a test for each. */
public final class EdgeNodeTest {
    private static final int BAD_INDEX = GradeGraph.BAD_INDEX, BAD_VALUE = GradeGraph.BAD_VALUE;
    private static final int NOT_POSSIBLE = GradeGraph.NOT_POSSIBLE, FULL = GradeGraph.FULL, NONE = GradeGraph.NONE;
    private static final int SOURCE = GradeGraph.SOURCE, GAIN = GradeGraph.GAIN, SHIFT = GradeGraph.SHIFT;
    private static final int INVERT = GradeGraph.INVERT, BLUR = GradeGraph.BLUR, KEY = GradeGraph.KEY, BLEND = GradeGraph.BLEND;
    private static final int[] INPUTS = {0, 1, 1, 1, 1, 1, 3};
    private static final int[] FAR = {Integer.MIN_VALUE, -1006, -1004, -1, 1000, Integer.MAX_VALUE};
    private static final Checks CHECKS = new Checks();

    public static void main(String[] arguments) {
        atMost12Nodes();
        eachInputAnotherNodeOrNone();
        rangeAtFirst();
        inputsOfEachKind();
        parametersOfEachKind();
        dependsIfItIsTheSame();
        dependsByItsInputs();
        order();
        orderLexicographicallyFirst();
        orderOfEveryChain();
        promise1WithoutNodes();
        promise1EmptyCache();
        promise1EmptyText();
        promise1EmptySlots();
        promise1NothingCounted();
        promise2Removes();
        promise2NotCounted();
        promise2Stays();
        promise2Returns();
        promise3Fresh();
        promise3Kinds();
        promise3Returns();
        promise4InPlaceOf();
        promise4From();
        promise4AlsoIfConnectedSoBefore();
        promise4Returns();
        promise5Values();
        promise5AlsoIfTheSame();
        promise5Returns();
        promise6Ranges();
        promise6Returns();
        promise7();
        promise8Dependents();
        promise8Place();
        promise8Depth();
        promise8Returns();
        promise9();
        promise10();
        CHECKS.finish("EdgeNodeTest");
    }

    private static void due(String call, long got, long want) {
        CHECKS.due(call, got, want);
    }

    private static GradeGraph nodes(int... kinds) {
        GradeGraph graph = new GradeGraph();
        for (int kind : kinds) {
            graph.addNode(kind);
        }
        return graph;
    }

    private static GradeGraph twelve(int kind) {
        return nodes(kind, kind, kind, kind, kind, kind, kind, kind, kind, kind, kind, kind);
    }

    /** Twelve blends, each of the one ahead of it. */
    private static GradeGraph chain(int input) {
        GradeGraph graph = twelve(BLEND);
        for (int node = 1; node < 12; node++) {
            graph.connect(node, input, node - 1);
        }
        return graph;
    }

    private static void atMost12Nodes() {
        CHECKS.sentence("There are at most 12 nodes, numbered from 0 in the order in which they are added.");
        GradeGraph graph = new GradeGraph();
        for (int number = 0; number < 12; number++) {
            due("number " + number + " is not there yet", graph.node(number, 0), BAD_INDEX);
            due("addNode()", graph.addNode((number + 3) % 7), number);
            due("kind of " + number, graph.node(number, 0), (number + 3) % 7);
        }
        due("a thirteenth one", graph.addNode(SOURCE), FULL);
        due("number 12", graph.node(12, 0), BAD_INDEX);
        for (int number = 0; number < 12; number++) {
            due("kind of " + number + " still", graph.node(number, 0), (number + 3) % 7);
        }
    }

    private static void eachInputAnotherNodeOrNone() {
        CHECKS.sentence("A node has a kind, inputs (each another node, or none)");
        GradeGraph graph = nodes(BLEND, SOURCE);
        due("itself", graph.connect(0, 0, 0), NOT_POSSIBLE);
        due("another node", graph.connect(0, 0, 1), 0);
        due("the same one twice", graph.connect(0, 2, 1), 0);
        due("none", graph.connect(0, 0, NONE), 0);
        due("input 0", graph.input(0, 0), NONE);
        due("input 1", graph.input(0, 1), NONE);
        due("input 2", graph.input(0, 2), 1);
    }

    private static void rangeAtFirst() {
        CHECKS.sentence("a range of frames, at first 0 to 99");
        GradeGraph graph = nodes(SOURCE, GAIN, SHIFT, INVERT, BLUR, KEY, BLEND);
        Checks.write(graph, "i(s(1))");
        graph.build();
        for (int node = 0; node < 9; node++) {
            due("the first frame of " + node, graph.node(node, 1), 0);
            due("the last frame of " + node, graph.node(node, 2), 99);
        }
        due("an inverse of black in frame 0", graph.value(INVERT, 0, 0, 0, 0), 255);
        due("an inverse of black in frame 99", graph.value(INVERT, 99, 0, 0, 0), 255);
    }

    private static void inputsOfEachKind() {
        CHECKS.sentence("Kinds, with their inputs");
        GradeGraph graph = nodes(SOURCE, GAIN, SHIFT, INVERT, BLUR, KEY, BLEND, SOURCE);
        for (int kind = SOURCE; kind <= BLEND; kind++) {
            due("an input ahead of the first one of " + kind, graph.connect(kind, -1, 7), BAD_INDEX);
            for (int input = 0; input < INPUTS[kind]; input++) {
                due("input " + input + " of " + kind, graph.connect(kind, input, 7), 0);
                due("what it is", graph.input(kind, input), 7);
            }
            due("an input too many of " + kind, graph.connect(kind, INPUTS[kind], 7), BAD_INDEX);
            due("an input too many of " + kind + ", of none", graph.connect(kind, INPUTS[kind], NONE), BAD_INDEX);
        }
    }

    /** For each kind a row: the lowest value, the highest one and the one at first of each parameter. */
    private static final int[][] PARAMETERS = {
        {0, 999, 0}, {0, 64, 16, 0, 64, 16, 0, 64, 16}, {-255, 255, 0, -255, 255, 0, -255, 255, 0},
        {}, {0, 3, 1}, {0, 2, 0, 0, 255, 0, 0, 255, 255, 0, 99, 0}, {},
    };

    private static void parametersOfEachKind() {
        CHECKS.sentence("parameters (with ranges, and what they are at first)");
        GradeGraph graph = nodes(SOURCE, GAIN, SHIFT, INVERT, BLUR, KEY, BLEND);
        for (int kind = SOURCE; kind <= BLEND; kind++) {
            int number = PARAMETERS[kind].length / 3;
            for (int parameter = 0; parameter < number; parameter++) {
                due("at first: " + kind + ", " + parameter, graph.parameter(kind, parameter), PARAMETERS[kind][3 * parameter + 2]);
            }
            due("there is no more: " + kind, graph.parameter(kind, number), BAD_INDEX);
            due("there is none ahead: " + kind, graph.parameter(kind, -1), BAD_INDEX);
        }
    }

    private static void dependsIfItIsTheSame() {
        CHECKS.sentence("A node depends on another one if it is the same");
        GradeGraph graph = twelve(BLEND);
        for (int node = 0; node < 12; node++) {
            for (int input = 0; input < 3; input++) {
                due("connect(" + node + ", " + input + ", " + node + ")", graph.connect(node, input, node), NOT_POSSIBLE);
            }
            due("dependents of " + node, graph.node(node, 3), 1);
        }
    }

    private static void dependsByItsInputs() {
        CHECKS.sentence("An input can be connected only with a node that does not depend on its own node.");
        for (int input = 0; input < 3; input++) {
            GradeGraph graph = chain(input);
            for (int node = 0; node < 12; node++) {
                for (int from = node; from < 12; from++) {
                    due("by input " + input + ": connect(" + node + ", 1, " + from + ")", graph.connect(node, 1, from), NOT_POSSIBLE);
                }
            }
            due("cut in the middle", graph.connect(6, input, NONE), 0);
            due("the ends do not depend any more", graph.connect(0, input, 11), 0);
            due("but so the middle does", graph.connect(6, input, 5), NOT_POSSIBLE);
            due("just behind the cut", graph.connect(6, 0, 4), NOT_POSSIBLE);
        }
        GradeGraph apart = twelve(BLEND);
        due("a node that is an input already", apart.connect(3, 0, 7), 0);
        due("is not one that depends on it", apart.connect(3, 1, 7), 0);
        due("the other way", apart.connect(7, 2, 3), NOT_POSSIBLE);
    }

    private static void order() {
        CHECKS.sentence("The order of the nodes is the one in which each node stands behind all its inputs");
        for (int input = 0; input < 3; input++) {
            GradeGraph graph = twelve(BLEND);
            for (int node = 0; node < 11; node++) {
                graph.connect(node, input, node + 1);
            }
            for (int node = 0; node < 12; node++) {
                due("place of " + node + " by input " + input, graph.node(node, 4), 11 - node);
            }
        }
    }

    private static void orderLexicographicallyFirst() {
        CHECKS.sentence("and which is lexicographically first among these");
        GradeGraph graph = twelve(BLEND);
        for (int node = 0; node < 12; node++) {
            due("place of " + node + " without inputs", graph.node(node, 4), node);
        }
        // 0 behind 11 alone: 1 to 11, and 0 at once then; 5 behind 9: it is put off till then
        graph.connect(0, 0, 11);
        graph.connect(5, 2, 9);
        int[] places = {11, 0, 1, 2, 3, 8, 4, 5, 6, 7, 9, 10};
        for (int node = 0; node < 12; node++) {
            due("place of " + node, graph.node(node, 4), places[node]);
        }
        // 0 behind 1 alone: it comes at once behind it, ahead of 2
        graph.connect(0, 0, 1);
        due("place of 1", graph.node(1, 4), 0);
        due("place of 0", graph.node(0, 4), 1);
        due("place of 2", graph.node(2, 4), 2);
    }

    private static void orderOfEveryChain() {
        CHECKS.sentence("A node depends on another one if it is the same, or one of its inputs is a node that depends on it.");
        // two nodes apart, and a chain of four in each order of their numbers
        for (int code = 0; code < 256; code++) {
            int[] chain = {2 + code % 4, 2 + code / 4 % 4, 2 + code / 16 % 4, 2 + code / 64};
            int numbers = 1 << chain[0] | 1 << chain[1] | 1 << chain[2] | 1 << chain[3];
            if (Integer.bitCount(numbers) < 4) {
                continue;
            }
            GradeGraph graph = nodes(BLEND, BLEND, BLEND, BLEND, BLEND, BLEND);
            for (int link = 1; link < 4; link++) {
                due("connect()", graph.connect(chain[link], link - 1, chain[link - 1]), 0);
            }
            for (int link = 0; link < 4; link++) {
                String call = "link " + link + " of " + code;
                due(call + ": dependents", graph.node(chain[link], 3), 4 - link);
                due(call + ": place", graph.node(chain[link], 4), 2 + link);
                due(call + ": depth", graph.node(chain[link], 5), link);
                due(call + ": a circle", graph.connect(chain[0], 0, chain[link]), NOT_POSSIBLE);
            }
        }
    }

    private static void promise1WithoutNodes() {
        CHECKS.sentence("Creates a graph without nodes");
        GradeGraph graph = new GradeGraph();
        due("nodes()", graph.nodes(), 0);
        due("node(0, 0)", graph.node(0, 0), BAD_INDEX);
        due("input(0, 0)", graph.input(0, 0), BAD_INDEX);
        due("parameter(0, 0)", graph.parameter(0, 0), BAD_INDEX);
        due("set(0, 0, 0)", graph.set(0, 0, 0), BAD_INDEX);
        due("setRange(0, 0, 0)", graph.setRange(0, 0, 0), BAD_INDEX);
        due("connect(0, 0, NONE)", graph.connect(0, 0, NONE), BAD_INDEX);
        due("isCached(0, 0)", graph.isCached(0, 0), BAD_INDEX);
        due("addNode()", graph.addNode(KEY), 0);
    }

    private static void promise1EmptyCache() {
        CHECKS.sentence("with an empty cache");
        GradeGraph graph = new GradeGraph();
        due("count(0)", graph.count(0), 0);
        for (int node = 0; node < 3; node++) {
            graph.addNode(INVERT);
            for (int frame = 0; frame < 100; frame++) {
                due("isCached(" + node + ", " + frame + ")", graph.isCached(node, frame), 0);
            }
        }
    }

    private static void promise1EmptyText() {
        CHECKS.sentence("and an empty text");
        GradeGraph graph = new GradeGraph();
        due("faultPosition()", graph.faultPosition(), 0);
        due("faultDepth()", graph.faultDepth(), 0);
        due("build()", graph.build(), NOT_POSSIBLE);
        due("clearText()", graph.clearText(), 0);
        due("append()", graph.append('s'), 1);
    }

    private static void promise1EmptySlots() {
        CHECKS.sentence("and with empty slots");
        GradeGraph graph = new GradeGraph();
        due("restore(0)", graph.restore(0), NOT_POSSIBLE);
        due("restore(1)", graph.restore(1), NOT_POSSIBLE);
    }

    private static void promise1NothingCounted() {
        CHECKS.sentence("nothing has been counted");
        GradeGraph graph = new GradeGraph();
        for (int what = 0; what < 5; what++) {
            due("count(" + what + ")", graph.count(what), 0);
        }
    }

    /** Two nodes whose pictures were asked for: one hit, two misses, nothing dropped, one void. */
    private static GradeGraph used() {
        GradeGraph graph = Checks.built("i(s(3))");
        graph.save(1);
        graph.setRoom(31);
        graph.value(1, 0, 0, 0, 0);
        graph.value(1, 0, 0, 0, 0);
        graph.connect(1, 0, 0);
        return graph;
    }

    private static void promise2Removes() {
        CHECKS.sentence("Removes all nodes, and empties the cache");
        GradeGraph graph = used();
        graph.clear();
        due("nodes()", graph.nodes(), 0);
        due("node(0, 0)", graph.node(0, 0), BAD_INDEX);
        due("isCached(0, 0)", graph.isCached(0, 0), BAD_INDEX);
        due("count(0)", graph.count(0), 0);
        due("a new node", graph.addNode(BLEND), 0);
        due("has no picture of the old one", graph.isCached(0, 0), 0);
        due("and no dependents", graph.node(0, 3), 1);
        graph = twelve(GAIN);
        graph.clear();
        for (int number = 0; number < 12; number++) {
            due("there is room for all again", graph.addNode(SOURCE), number);
        }
    }

    private static void promise2NotCounted() {
        CHECKS.sentence("(these pictures are not counted)");
        GradeGraph graph = used();
        graph.clear();
        due("hits", graph.count(1), 1);
        due("misses", graph.count(2), 2);
        due("dropped", graph.count(3), 0);
        due("void", graph.count(4), 1);
    }

    private static void promise2Stays() {
        CHECKS.sentence("Its room, the counts, the text and the slots stay.");
        GradeGraph graph = used();
        graph.clear();
        due("the room", graph.setRoom(12), 31);
        due("the counts", graph.count(1) + 10 * graph.count(2) + 100 * graph.count(4), 121);
        due("the text", graph.faultPosition(), NONE);
        due("its length", graph.clearText(), 7);
        due("slot 0", graph.restore(0), NOT_POSSIBLE);
        due("slot 1", graph.restore(1), 2);
        due("what it keeps", graph.node(1, 0), INVERT);
        due("and how it is connected", graph.input(1, 0), 0);
    }

    private static void promise2Returns() {
        CHECKS.sentence("clear: Returns the number of nodes that there were.");
        GradeGraph graph = twelve(SOURCE);
        due("twelve", graph.clear(), 12);
        due("none", graph.clear(), 0);
        graph.addNode(SOURCE);
        due("one", graph.clear(), 1);
    }

    private static void promise3Fresh() {
        CHECKS.sentence("Adds a node without inputs, with the parameters that it has at first.");
        for (int kind = SOURCE; kind <= BLEND; kind++) {
            // all that a node can keep is put where the new ones will stand
            GradeGraph graph = Checks.built("k(k(s(9),2,9,8,7),2,9,8,7)");
            for (int node = 0; node < 3; node++) {
                graph.setRange(node, 3, 4);
            }
            graph.clear();
            graph.addNode(SOURCE);
            due("number 1", graph.addNode(kind), 1);
            for (int input = 0; input < INPUTS[kind]; input++) {
                due("input " + input + " of " + kind, graph.input(1, input), NONE);
            }
            for (int parameter = 0; parameter < PARAMETERS[kind].length / 3; parameter++) {
                due("parameter " + parameter + " of " + kind, graph.parameter(1, parameter), PARAMETERS[kind][3 * parameter + 2]);
            }
            due("the first frame", graph.node(1, 1), 0);
            due("the last frame", graph.node(1, 2), 99);
            due("dependents of number 0", graph.node(0, 3), 1);
            due("depth", graph.node(1, 5), 0);
        }
    }

    private static void promise3Kinds() {
        CHECKS.sentence("kind: SOURCE to BLEND");
        GradeGraph graph = new GradeGraph();
        due("SOURCE", graph.addNode(SOURCE), 0);
        due("BLEND", graph.addNode(BLEND), 1);
        due("one less", graph.addNode(SOURCE - 1), BAD_VALUE);
        due("one more", graph.addNode(BLEND + 1), BAD_VALUE);
        for (int far : FAR) {
            due("kind " + far, graph.addNode(far), BAD_VALUE);
        }
        due("nodes()", graph.nodes(), 2);
    }

    private static void promise3Returns() {
        CHECKS.sentence("Returns its number; BAD_VALUE; FULL if there are 12 nodes.");
        GradeGraph graph = twelve(SOURCE);
        due("to eleven", nodes(0, 0, 0, 0, 0, 0, 0, 0, 0, 0, 0).addNode(KEY), 11);
        due("to twelve", graph.addNode(KEY), FULL);
        due("a wrong kind to twelve", graph.addNode(7), BAD_VALUE);
        due("nodes()", graph.nodes(), 12);
        due("the last one", graph.node(11, 0), SOURCE);
    }

    private static void promise4InPlaceOf() {
        CHECKS.sentence("Connects an input with a node, in place of the one with which it was connected.");
        GradeGraph graph = nodes(SOURCE, SOURCE, INVERT, BLEND);
        graph.connect(2, 0, 0);
        graph.connect(2, 0, 1);
        due("the new one", graph.input(2, 0), 1);
        due("dependents of the old one", graph.node(0, 3), 1);
        due("dependents of the new one", graph.node(1, 3), 2);
        graph.connect(2, 0, NONE);
        due("none", graph.input(2, 0), NONE);
        due("dependents of the new one then", graph.node(1, 3), 1);
        due("depth without an input", graph.node(2, 5), 0);
        graph.connect(3, 1, 0);
        graph.connect(3, 2, 1);
        graph.connect(3, 1, 2);
        due("another input stays", graph.input(3, 0), NONE);
        due("the input itself", graph.input(3, 1), 2);
        due("another input stays", graph.input(3, 2), 1);
    }

    private static void promise4From() {
        CHECKS.sentence("from: the number of a node, or NONE for none (any other number is BAD_INDEX)");
        GradeGraph graph = nodes(SOURCE, INVERT, SOURCE);
        due("the first one", graph.connect(1, 0, 0), 0);
        due("the last one", graph.connect(1, 0, 2), 0);
        due("one more", graph.connect(1, 0, 3), BAD_INDEX);
        for (int from = -1010; from <= -1000; from++) {
            due("from " + from, graph.connect(1, 0, from), from == NONE ? 0 : BAD_INDEX);
        }
        graph.connect(1, 0, 2);
        for (int far : FAR) {
            due("from " + far, graph.connect(1, 0, far), BAD_INDEX);
        }
        due("it stays", graph.input(1, 0), 2);
    }

    private static void promise4AlsoIfConnectedSoBefore() {
        CHECKS.sentence("connect: Returns the number of pictures that became void (also if it was connected so before)");
        GradeGraph graph = Checks.built("i(i(s(1)))");
        graph.value(2, 0, 0, 0, 0);
        graph.value(2, 9, 0, 0, 0);
        due("as before", graph.connect(1, 0, 0), 4);
        due("nothing is left", graph.connect(1, 0, 0), 0);
        graph.connect(1, 0, NONE);
        graph.value(1, 0, 0, 0, 0);
        due("none as before", graph.connect(1, 0, NONE), 1);
        due("void in all", graph.count(4), 5);
    }

    private static void promise4Returns() {
        CHECKS.sentence("BAD_INDEX; NOT_POSSIBLE if from depends on node.");
        GradeGraph graph = nodes(BLEND, BLEND, SOURCE);
        graph.connect(1, 2, 0);
        due("it depends", graph.connect(0, 0, 1), NOT_POSSIBLE);
        due("no such input", graph.connect(0, 3, 1), BAD_INDEX);
        due("no such input, itself", graph.connect(0, -1, 0), BAD_INDEX);
        due("an input of a source, itself", graph.connect(2, 0, 2), BAD_INDEX);
        due("no such node", graph.connect(3, 0, 3), BAD_INDEX);
        for (int far : FAR) {
            due("node " + far, graph.connect(far, 0, 0), BAD_INDEX);
            due("input " + far, graph.connect(0, far, 0), BAD_INDEX);
        }
        due("node NONE", graph.connect(NONE, 0, NONE), BAD_INDEX);
        due("nothing was connected", graph.input(0, 0), NONE);
    }

    private static void promise5Values() {
        CHECKS.sentence("value: in the range of this parameter");
        for (int kind = SOURCE; kind <= BLEND; kind++) {
            for (int parameter = 0; parameter < PARAMETERS[kind].length / 3; parameter++) {
                GradeGraph graph = nodes(kind);
                int lowest = PARAMETERS[kind][3 * parameter];
                int highest = PARAMETERS[kind][3 * parameter + 1];
                String call = "kind " + kind + ", parameter " + parameter + ": ";
                due(call + "one less", graph.set(0, parameter, lowest - 1), BAD_VALUE);
                due(call + "one more", graph.set(0, parameter, highest + 1), BAD_VALUE);
                due(call + "far less", graph.set(0, parameter, Integer.MIN_VALUE), BAD_VALUE);
                due(call + "far more", graph.set(0, parameter, Integer.MAX_VALUE), BAD_VALUE);
                due(call + "as at first", graph.parameter(0, parameter), PARAMETERS[kind][3 * parameter + 2]);
                due(call + "the lowest", graph.set(0, parameter, lowest), 0);
                due(call + "it is the lowest", graph.parameter(0, parameter), lowest);
                due(call + "the highest", graph.set(0, parameter, highest), 0);
                due(call + "it is the highest", graph.parameter(0, parameter), highest);
                for (int other = 0; other < PARAMETERS[kind].length / 3; other++) {
                    int want = other == parameter ? highest : PARAMETERS[kind][3 * other + 2];
                    due(call + "only this one", graph.parameter(0, other), want);
                }
            }
        }
    }

    private static void promise5AlsoIfTheSame() {
        CHECKS.sentence("set: Returns the number of pictures that became void (also if the value is the same as before)");
        GradeGraph graph = Checks.built("l(s(1),3)");
        graph.value(1, 0, 0, 0, 0);
        due("the same reach", graph.set(1, 0, 3), 1);
        due("nothing is left", graph.set(1, 0, 3), 0);
        due("the same seed", graph.set(0, 0, 1), 1);
        due("void in all", graph.count(4), 2);
    }

    private static void promise5Returns() {
        CHECKS.sentence("set: BAD_INDEX; BAD_VALUE.");
        GradeGraph graph = nodes(SOURCE, GAIN, SHIFT, INVERT, BLUR, KEY, BLEND);
        for (int kind = SOURCE; kind <= BLEND; kind++) {
            due("a parameter too many of " + kind, graph.set(kind, PARAMETERS[kind].length / 3, 0), BAD_INDEX);
            due("also with a wrong value", graph.set(kind, PARAMETERS[kind].length / 3, 5000), BAD_INDEX);
            due("parameter -1 of " + kind, graph.set(kind, -1, 5000), BAD_INDEX);
        }
        due("no such node", graph.set(7, 0, 0), BAD_INDEX);
        for (int far : FAR) {
            due("node " + far, graph.set(far, 0, 5000), BAD_INDEX);
            due("parameter " + far, graph.set(KEY, far, 5000), BAD_INDEX);
        }
        due("value 5000", graph.set(KEY, 3, 5000), BAD_VALUE);
    }

    private static void promise6Ranges() {
        CHECKS.sentence("from: 0 to 99; to: from to 99");
        GradeGraph graph = nodes(BLUR);
        int[][] right = {{0, 99}, {0, 0}, {99, 99}, {50, 50}, {50, 51}, {0, 98}, {1, 99}};
        for (int[] range : right) {
            due("setRange(0, " + range[0] + ", " + range[1] + ")", graph.setRange(0, range[0], range[1]), 0);
            due("the first frame", graph.node(0, 1), range[0]);
            due("the last frame", graph.node(0, 2), range[1]);
        }
        int[][] wrong = {{-1, 99}, {-1, -1}, {0, 100}, {100, 100}, {100, 99}, {51, 50}, {1, 0}, {99, 0}, {0, -1},
            {Integer.MIN_VALUE, 5}, {5, Integer.MAX_VALUE}, {Integer.MAX_VALUE, Integer.MIN_VALUE}};
        for (int[] range : wrong) {
            due("setRange(0, " + range[0] + ", " + range[1] + ")", graph.setRange(0, range[0], range[1]), BAD_VALUE);
        }
        due("the first frame stays", graph.node(0, 1), 1);
        due("the last frame stays", graph.node(0, 2), 99);
    }

    private static void promise6Returns() {
        CHECKS.sentence("BAD_INDEX if there is no such node; BAD_VALUE.");
        GradeGraph graph = nodes(SOURCE);
        due("node 1", graph.setRange(1, 0, 0), BAD_INDEX);
        due("node 1 with a wrong range", graph.setRange(1, 9, 8), BAD_INDEX);
        for (int far : FAR) {
            due("node " + far, graph.setRange(far, -1, 100), BAD_INDEX);
        }
        due("node 0 with a wrong range", graph.setRange(0, 9, 8), BAD_VALUE);
    }

    private static void promise7() {
        CHECKS.sentence("nodes: Returns the number of nodes.");
        GradeGraph graph = new GradeGraph();
        for (int number = 0; number < 12; number++) {
            due("nodes()", graph.nodes(), number);
            graph.addNode(SHIFT);
        }
        due("nodes()", graph.nodes(), 12);
        graph.addNode(SHIFT);
        due("nodes() after a refusal", graph.nodes(), 12);
    }

    private static void promise8Dependents() {
        CHECKS.sentence("3 for the number of nodes that depend on it (itself with them)");
        due("itself alone", nodes(SOURCE).node(0, 3), 1);
        for (int input = 0; input < 3; input++) {
            GradeGraph graph = chain(input);
            for (int node = 0; node < 12; node++) {
                due("dependents of " + node + " by input " + input, graph.node(node, 3), 12 - node);
            }
        }
        // 0 is an input of 1 and of 2, and both are inputs of 3: it is counted once
        GradeGraph graph = nodes(SOURCE, INVERT, INVERT, BLEND);
        graph.connect(1, 0, 0);
        graph.connect(2, 0, 0);
        graph.connect(3, 0, 1);
        graph.connect(3, 1, 2);
        graph.connect(3, 2, 0);
        due("each one once", graph.node(0, 3), 4);
        graph.setRange(3, 7, 7);
        due("whatever the range is", graph.node(2, 3), 2);
    }

    private static void promise8Place() {
        CHECKS.sentence("4 for its place in the order, counted from 0");
        due("the only one", nodes(SOURCE).node(0, 4), 0);
        GradeGraph graph = twelve(BLEND);
        graph.connect(0, 2, 1);
        due("the first place", graph.node(1, 4), 0);
        due("the second place", graph.node(0, 4), 1);
        due("the last place", graph.node(11, 4), 11);
    }

    private static void promise8Depth() {
        CHECKS.sentence("5 for its depth: 0 without inputs that are nodes, otherwise 1 more than the greatest depth of these");
        GradeGraph graph = nodes(SOURCE, INVERT, INVERT, BLEND, BLEND);
        due("a source", graph.node(0, 5), 0);
        due("a blend without inputs", graph.node(3, 5), 0);
        graph.connect(1, 0, 0);
        graph.connect(2, 0, 1);
        due("two behind it", graph.node(2, 5), 2);
        int[][] turns = {{0, 1, 2}, {1, 2, 0}, {2, 0, 1}};
        for (int[] turn : turns) {
            for (int input = 0; input < 3; input++) {
                graph.connect(3, input, turn[input]);
            }
            due("the greatest one is at any input", graph.node(3, 5), 3);
        }
        graph.connect(4, 2, 0);
        due("by the last input alone", graph.node(4, 5), 1);
        GradeGraph apart = nodes(SOURCE, SOURCE, SOURCE, INVERT);
        apart.connect(3, 0, 2);
        due("the depth is not the place", apart.node(3, 5), 1);
        due("a chain of twelve", chain(1).node(11, 5), 11);
    }

    private static void promise8Returns() {
        CHECKS.sentence("node: Returns this number; BAD_INDEX; BAD_VALUE.");
        GradeGraph graph = nodes(KEY);
        int[] want = {KEY, 0, 99, 1, 0, 0};
        for (int what = 0; what < 6; what++) {
            due("what " + what, graph.node(0, what), want[what]);
            due("node 1", graph.node(1, what), BAD_INDEX);
        }
        due("what -1", graph.node(0, -1), BAD_VALUE);
        due("what 6", graph.node(0, 6), BAD_VALUE);
        for (int far : FAR) {
            due("what " + far, graph.node(0, far), BAD_VALUE);
            due("node " + far, graph.node(far, 0), BAD_INDEX);
            due("both", graph.node(far, far), BAD_INDEX);
        }
    }

    private static void promise9() {
        CHECKS.sentence("Returns the node with which it is connected; BAD_INDEX; NONE if there is none.");
        GradeGraph graph = nodes(BLEND, SOURCE);
        for (int input = 0; input < 3; input++) {
            due("none yet", graph.input(0, input), NONE);
            graph.connect(0, input, 1);
            due("a node", graph.input(0, input), 1);
        }
        due("input 3", graph.input(0, 3), BAD_INDEX);
        due("an input of a source", graph.input(1, 0), BAD_INDEX);
        due("node 2", graph.input(2, 0), BAD_INDEX);
        for (int far : FAR) {
            due("node " + far, graph.input(far, 0), BAD_INDEX);
            due("input " + far, graph.input(0, far), BAD_INDEX);
        }
        graph = nodes(SOURCE, BLEND);
        graph.connect(1, 1, 0);
        due("number 0 is a node", graph.input(1, 1), 0);
    }

    private static void promise10() {
        CHECKS.sentence("parameter: Returns its value; BAD_INDEX.");
        GradeGraph graph = nodes(SHIFT, INVERT);
        graph.set(0, 2, -255);
        due("a value below 0", graph.parameter(0, 2), -255);
        due("parameter 3", graph.parameter(0, 3), BAD_INDEX);
        due("a parameter of an inverse", graph.parameter(1, 0), BAD_INDEX);
        due("node 2", graph.parameter(2, 0), BAD_INDEX);
        for (int far : FAR) {
            due("node " + far, graph.parameter(far, 0), BAD_INDEX);
            due("parameter " + far, graph.parameter(0, far), BAD_INDEX);
        }
    }
}
