import java.util.ArrayList;
import java.util.List;
import java.util.function.ToIntFunction;

/** The sentences under "Errors", and those of promises 23 to 25 that name an edge: a test for each. */
public final class EdgeErrorTest {
    private static final int BAD_INDEX = GradeGraph.BAD_INDEX, BAD_VALUE = GradeGraph.BAD_VALUE;
    private static final int NOT_POSSIBLE = GradeGraph.NOT_POSSIBLE, FULL = GradeGraph.FULL, NONE = GradeGraph.NONE;
    private static final int SOURCE = GradeGraph.SOURCE, INVERT = GradeGraph.INVERT, KEY = GradeGraph.KEY, BLEND = GradeGraph.BLEND;
    private static final int[] FAR = {Integer.MIN_VALUE, -1005, -1, 1000, Integer.MAX_VALUE};
    private static final Checks CHECKS = new Checks();

    public static void main(String[] arguments) {
        orderOfTheChecks();
        noneOnlyIfNoErrorApplies();
        refusedCallsChangeNothing();
        promise23InPlaceOf();
        promise23TheSlotAlone();
        promise23AllNodes();
        promise23Returns();
        promise24AsTheyWereSaved();
        promise24EmptiesTheCache();
        promise24NotCounted();
        promise24SlotKeepsThem();
        promise24Returns();
        promise24NothingSaved();
        promise25WithOverflow();
        promise25AsksForNoPictures();
        CHECKS.finish("EdgeErrorTest");
    }

    private static void due(String call, long got, long want) {
        CHECKS.due(call, got, want);
    }

    /** Twelve nodes, pictures in the cache, a slot that keeps nodes, and a full text with a fault. */
    static GradeGraph scene() {
        GradeGraph graph = Checks.built("b(i(s(1)),g(s(2),20),k(l(s(3),1),1,20,200,30))");
        graph.save(0);
        Checks.write(graph, "k(t(n(7),-30),2,0,0,0)");
        graph.build();
        graph.addNode(BLEND);
        graph.connect(10, 1, 9);
        graph.addNode(SOURCE);
        graph.setRange(10, 2, 6);
        graph.setRoom(13);
        for (int frame = 0; frame < 9; frame++) {
            graph.value(10, frame, 0, 0, 0);
            graph.value(frame, frame, 0, 0, 0);
        }
        graph.set(11, 0, 5);
        Checks.write(graph, "i(i(" + "1".repeat(76));
        return graph;
    }

    /** The same with a text of more nodes than there is room for. */
    private static GradeGraph sceneWithText() {
        GradeGraph graph = scene();
        Checks.write(graph, "i(n(3))");
        return graph;
    }

    /** What later calls can tell of an object; this uses it up. */
    private static List<Long> told(GradeGraph graph) {
        List<Long> told = new ArrayList<>();
        told.add(graph.checksum());
        told.add((long) graph.faultPosition());
        told.add((long) graph.faultDepth());
        for (int frame = 10; frame < 24; frame++) {
            // the order in which pictures are dropped tells how they were used
            told.add((long) graph.value(11, frame, 1, 1, 1));
            told.add(graph.checksum());
        }
        told.add((long) graph.setRoom(12));
        told.add((long) graph.clearText());
        told.add((long) graph.append('s'));
        told.add((long) graph.faultPosition());
        for (int slot = 1; slot >= 0; slot--) {
            told.add((long) graph.restore(slot));
            told.add(graph.checksum());
        }
        return told;
    }

    private static void orderOfTheChecks() {
        CHECKS.sentence("Where several can apply, the order of the @return line is the order of the checks.");
        GradeGraph graph = scene();
        due("addNode(): BAD_VALUE, FULL", graph.addNode(7), BAD_VALUE);
        due("connect(): BAD_INDEX of the input, NOT_POSSIBLE", graph.connect(1, 1, 1), BAD_INDEX);
        due("connect(): BAD_INDEX of a source, NOT_POSSIBLE", graph.connect(0, 0, 1), BAD_INDEX);
        due("set(): BAD_INDEX of the node, BAD_VALUE", graph.set(12, 0, 1000), BAD_INDEX);
        due("set(): BAD_INDEX of the parameter, BAD_VALUE", graph.set(0, 1, 1000), BAD_INDEX);
        due("setRange(): BAD_INDEX, BAD_VALUE", graph.setRange(12, 3, 2), BAD_INDEX);
        due("node(): BAD_INDEX, BAD_VALUE", graph.node(12, 6), BAD_INDEX);
        due("sum(): BAD_INDEX of the node, BAD_VALUE", graph.sum(12, 0, 0, 4), BAD_INDEX);
        due("sum(): BAD_INDEX of the frame, BAD_VALUE", graph.sum(0, 100, 0, 4), BAD_INDEX);
        due("sum(): BAD_INDEX of the channel, BAD_VALUE", graph.sum(0, 0, 3, 4), BAD_INDEX);
        due("append(): BAD_VALUE, FULL", graph.append(128), BAD_VALUE);
        due("restore(): BAD_INDEX, NOT_POSSIBLE", graph.restore(2), BAD_INDEX);
        Checks.write(graph, "i(s(1)");
        due("build(): NOT_POSSIBLE, FULL", graph.build(), NOT_POSSIBLE);
    }

    private static void noneOnlyIfNoErrorApplies() {
        CHECKS.sentence("NONE is not an error and is returned only if no error applies.");
        GradeGraph graph = Checks.built("i(s(1))");
        graph.connect(1, 0, NONE);
        due("input(1, 0)", graph.input(1, 0), NONE);
        due("input(1, 1)", graph.input(1, 1), BAD_INDEX);
        due("input(0, 0)", graph.input(0, 0), BAD_INDEX);
        due("input(2, 0)", graph.input(2, 0), BAD_INDEX);
        due("faultPosition()", graph.faultPosition(), NONE);
        due("faultDepth()", graph.faultDepth(), NONE);
    }

    private static void refused(String call, int want, ToIntFunction<GradeGraph> calls) {
        GradeGraph graph = scene();
        due(call, calls.applyAsInt(graph), want);
        CHECKS.holds(call + " changes nothing", told(graph).equals(told(scene())));
    }

    private static void refusedCallsChangeNothing() {
        CHECKS.sentence("A call that reports an error changes nothing.");
        refused("addNode(-1)", BAD_VALUE, graph -> graph.addNode(-1));
        refused("addNode(7)", BAD_VALUE, graph -> graph.addNode(7));
        refused("addNode(0)", FULL, graph -> graph.addNode(SOURCE));
        refused("addNode(6)", FULL, graph -> graph.addNode(BLEND));
        refused("connect(12, 0, 0)", BAD_INDEX, graph -> graph.connect(12, 0, 0));
        refused("connect(10, 3, 0)", BAD_INDEX, graph -> graph.connect(10, 3, 0));
        refused("connect(10, 0, 12)", BAD_INDEX, graph -> graph.connect(10, 0, 12));
        refused("connect(0, 0, NONE)", BAD_INDEX, graph -> graph.connect(0, 0, NONE));
        refused("connect(1, 0, 10)", NOT_POSSIBLE, graph -> graph.connect(1, 0, 10));
        refused("connect(10, 2, 10)", NOT_POSSIBLE, graph -> graph.connect(10, 2, 10));
        refused("set(12, 0, 0)", BAD_INDEX, graph -> graph.set(12, 0, 0));
        refused("set(7, 0, 1)", BAD_INDEX, graph -> graph.set(7, 0, 1));
        refused("set(0, 0, 1000)", BAD_VALUE, graph -> graph.set(0, 0, 1000));
        refused("set(0, 0, -1)", BAD_VALUE, graph -> graph.set(0, 0, -1));
        refused("setRange(12, 0, 0)", BAD_INDEX, graph -> graph.setRange(12, 0, 0));
        refused("setRange(0, -1, 5)", BAD_VALUE, graph -> graph.setRange(0, -1, 5));
        refused("setRange(0, 5, 4)", BAD_VALUE, graph -> graph.setRange(0, 5, 4));
        refused("setRange(0, 5, 100)", BAD_VALUE, graph -> graph.setRange(0, 5, 100));
        refused("node(12, 0)", BAD_INDEX, graph -> graph.node(12, 0));
        refused("node(0, 6)", BAD_VALUE, graph -> graph.node(0, 6));
        refused("input(0, 0)", BAD_INDEX, graph -> graph.input(0, 0));
        refused("parameter(1, 0)", BAD_INDEX, graph -> graph.parameter(1, 0));
        refusedLooks();
        refused("setRoom(11)", BAD_VALUE, graph -> graph.setRoom(11));
        refused("setRoom(49)", BAD_VALUE, graph -> graph.setRoom(49));
        refused("isCached(12, 0)", BAD_INDEX, graph -> graph.isCached(12, 0));
        refused("isCached(0, 100)", BAD_INDEX, graph -> graph.isCached(0, 100));
        refused("count(5)", BAD_INDEX, graph -> graph.count(5));
        refused("append(-1)", BAD_VALUE, graph -> graph.append(-1));
        refused("append(128)", BAD_VALUE, graph -> graph.append(128));
        refused("append('1')", FULL, graph -> graph.append('1'));
        refused("build() of a fault", NOT_POSSIBLE, graph -> graph.build());
        refused("save(-1)", BAD_INDEX, graph -> graph.save(-1));
        refused("save(2)", BAD_INDEX, graph -> graph.save(2));
        refused("restore(-1)", BAD_INDEX, graph -> graph.restore(-1));
        refused("restore(2)", BAD_INDEX, graph -> graph.restore(2));
        refused("restore(1)", NOT_POSSIBLE, graph -> graph.restore(1));
        GradeGraph graph = sceneWithText();
        due("build() of a thirteenth node", graph.build(), FULL);
        CHECKS.holds("build() of a thirteenth node changes nothing", told(graph).equals(told(sceneWithText())));
    }

    private static void refusedLooks() {
        refused("value(12, 5, 0, 0, 0)", BAD_INDEX, graph -> graph.value(12, 5, 0, 0, 0));
        refused("value(10, 100, 0, 0, 0)", BAD_INDEX, graph -> graph.value(10, 100, 0, 0, 0));
        refused("value(10, 50, 8, 0, 0)", BAD_INDEX, graph -> graph.value(10, 50, 8, 0, 0));
        refused("value(10, 50, 0, 4, 0)", BAD_INDEX, graph -> graph.value(10, 50, 0, 4, 0));
        refused("value(10, 50, 0, 0, 3)", BAD_INDEX, graph -> graph.value(10, 50, 0, 0, 3));
        refused("scope(10, 100, 0, 0)", BAD_INDEX, graph -> graph.scope(10, 100, 0, 0));
        refused("scope(10, 50, 3, 0)", BAD_INDEX, graph -> graph.scope(10, 50, 3, 0));
        refused("scope(10, 50, 0, 16)", BAD_INDEX, graph -> graph.scope(10, 50, 0, 16));
        refused("sum(10, 100, 0, 0)", BAD_INDEX, graph -> graph.sum(10, 100, 0, 0));
        refused("sum(10, 50, 3, 0)", BAD_INDEX, graph -> graph.sum(10, 50, 3, 0));
        refused("sum(10, 50, 0, 4)", BAD_VALUE, graph -> graph.sum(10, 50, 0, 4));
        refused("compare(10, 12, 50)", BAD_INDEX, graph -> graph.compare(10, 12, 50));
        refused("compare(12, 10, 50)", BAD_INDEX, graph -> graph.compare(12, 10, 50));
        refused("compare(10, 10, 100)", BAD_INDEX, graph -> graph.compare(10, 10, 100));
    }

    private static void promise23InPlaceOf() {
        CHECKS.sentence("Saves all nodes, in place of what the slot keeps.");
        GradeGraph graph = Checks.built("i(s(3))");
        graph.save(0);
        graph.save(1);
        graph.clear();
        graph.addNode(KEY);
        due("one node in place of two", graph.save(0), 1);
        due("restore(1)", graph.restore(1), 2);
        due("restore(0)", graph.restore(0), 1);
        due("its kind", graph.node(0, 0), KEY);
        graph.clear();
        due("no node in place of one", graph.save(0), 0);
        graph.addNode(INVERT);
        due("restore(0)", graph.restore(0), 0);
        due("nodes()", graph.nodes(), 0);
        due("the other slot", graph.restore(1), 2);
    }

    private static void promise23TheSlotAlone() {
        CHECKS.sentence("Saves all nodes, in place of what the slot keeps.");
        for (int slot = 0; slot < 2; slot++) {
            GradeGraph graph = Checks.built("i(s(3))");
            graph.save(slot);
            graph.set(0, 0, 44);
            graph.addNode(KEY);
            due("save() in the other slot", graph.save(1 - slot), 3);
            graph.clear();
            due("restore(" + slot + ")", graph.restore(slot), 2);
            due("its seed", graph.parameter(0, 0), 3);
            due("restore(" + (1 - slot) + ")", graph.restore(1 - slot), 3);
            due("its seed", graph.parameter(0, 0), 44);
        }
    }

    private static void promise23AllNodes() {
        CHECKS.sentence("Returns the number of nodes; BAD_INDEX.");
        GradeGraph graph = new GradeGraph();
        due("none", graph.save(1), 0);
        for (int number = 1; number <= 12; number++) {
            graph.addNode(number % 7);
            due("save()", graph.save(number % 2), number);
        }
        due("slot 1", graph.restore(1), 11);
        due("slot 0", graph.restore(0), 12);
        for (int node = 0; node < 12; node++) {
            due("kind of " + node, graph.node(node, 0), (node + 1) % 7);
        }
        due("a thirteenth one", graph.addNode(SOURCE), FULL);
    }

    private static void promise23Returns() {
        CHECKS.sentence("slot: 0 or 1");
        GradeGraph graph = Checks.built("s(1)");
        due("save(-1)", graph.save(-1), BAD_INDEX);
        due("save(2)", graph.save(2), BAD_INDEX);
        due("restore(-1)", graph.restore(-1), BAD_INDEX);
        due("restore(2)", graph.restore(2), BAD_INDEX);
        for (int far : FAR) {
            due("save(" + far + ")", graph.save(far), BAD_INDEX);
            due("restore(" + far + ")", graph.restore(far), BAD_INDEX);
        }
        due("save(0)", graph.save(0), 1);
        due("save(1)", graph.save(1), 1);
    }

    private static void promise24AsTheyWereSaved() {
        CHECKS.sentence("Makes the nodes as they were saved");
        GradeGraph graph = Checks.built("b(i(s(1)),g(s(2),20),k(l(s(3),1),1,20,200,30))");
        for (int kind : new int[] {BLEND, KEY, BLEND, SOURCE}) {
            graph.addNode(kind);
        }
        graph.connect(9, 0, 7);
        graph.connect(10, 1, 9);
        graph.connect(10, 2, 4);
        graph.connect(8, 2, 11);
        graph.setRange(10, 2, 6);
        graph.set(6, 3, 31);
        graph.set(11, 0, 999);
        graph.save(1);
        long[] before = nodesOf(graph);
        graph.clear();
        for (int node = 0; node < 12; node++) {
            graph.addNode(BLEND - node % 7);
            graph.setRange(node, 50, 60);
        }
        due("restore(1)", graph.restore(1), 12);
        long[] then = nodesOf(graph);
        for (int index = 0; index < before.length; index++) {
            due("number " + index + " of what can be asked of nodes", then[index], before[index]);
        }
        due("what was asked of a range", graph.node(10, 1), 2);
        due("what was asked of a parameter", graph.parameter(6, 3), 31);
        due("what was asked of an input", graph.input(10, 2), 4);
        due("a circle", graph.connect(5, 0, 10), NOT_POSSIBLE);
    }

    /** All that node(), input() and parameter() answer for twelve nodes. */
    private static long[] nodesOf(GradeGraph graph) {
        long[] told = new long[12 * 13];
        for (int node = 0; node < 12; node++) {
            for (int what = 0; what < 6; what++) {
                told[node * 13 + what] = graph.node(node, what);
            }
            for (int index = 0; index < 3; index++) {
                told[node * 13 + 6 + index] = graph.input(node, index);
            }
            for (int index = 0; index < 4; index++) {
                told[node * 13 + 9 + index] = graph.parameter(node, index);
            }
        }
        return told;
    }

    private static void promise24EmptiesTheCache() {
        CHECKS.sentence("and empties the cache");
        GradeGraph graph = Checks.built("i(s(3))");
        graph.save(0);
        graph.value(1, 0, 0, 0, 0);
        graph.restore(0);
        due("count(0)", graph.count(0), 0);
        due("also of nodes that are as they were", graph.isCached(0, 0), 0);
        due("and of this one", graph.isCached(1, 0), 0);
        graph.set(0, 0, 40);
        due("a picture of the new parameter", graph.value(1, 0, 0, 0, 0), 231);
        graph.restore(0);
        due("a picture of the old one", graph.value(1, 0, 0, 0, 0), 234);
        due("each was a miss", graph.count(2), 6);
    }

    private static void promise24NotCounted() {
        CHECKS.sentence("(nothing of this is counted)");
        GradeGraph graph = Checks.built("i(s(3))");
        graph.save(0);
        for (int frame = 0; frame < 9; frame++) {
            graph.value(1, frame, 0, 0, 0);
        }
        graph.value(1, 8, 0, 0, 0);
        graph.set(1, 0, 0);
        graph.connect(1, 0, 0);
        int[] before = {0, graph.count(1), graph.count(2), graph.count(3), graph.count(4)};
        graph.restore(0);
        for (int what = 0; what < 5; what++) {
            due("count(" + what + ")", graph.count(what), before[what]);
        }
        due("hits", before[1], 1);
        due("misses", before[2], 18);
        due("dropped", before[3], 2);
        due("void", before[4], 8);
    }

    private static void promise24SlotKeepsThem() {
        CHECKS.sentence("The slot keeps them.");
        GradeGraph graph = Checks.built("b(s(1),s(2),s(3))");
        graph.save(0);
        for (int time = 0; time < 3; time++) {
            due("restore(0)", graph.restore(0), 4);
            due("the parameter", graph.parameter(1, 0), 2);
            due("the range", graph.node(3, 2), 99);
            due("the input", graph.input(3, 1), 1);
            graph.set(1, 0, 500);
            graph.setRange(3, 1, 2);
            graph.connect(3, 1, 0);
            graph.addNode(KEY);
            if (time == 1) {
                graph.clear();
            }
        }
    }

    private static void promise24Returns() {
        CHECKS.sentence("Returns the number of nodes then");
        GradeGraph graph = Checks.built("i(s(1))");
        graph.save(0);
        graph.addNode(KEY);
        due("two", graph.restore(0), 2);
        due("nodes()", graph.nodes(), 2);
        graph.clear();
        due("two", graph.restore(0), 2);
        due("nodes()", graph.nodes(), 2);
    }

    private static void promise24NothingSaved() {
        CHECKS.sentence("NOT_POSSIBLE if nothing has been saved in the slot");
        GradeGraph graph = Checks.built("i(s(1))");
        due("slot 0", graph.restore(0), NOT_POSSIBLE);
        due("slot 1", graph.restore(1), NOT_POSSIBLE);
        graph.save(1);
        due("slot 0 still", graph.restore(0), NOT_POSSIBLE);
        due("slot 1 then", graph.restore(1), 2);
        graph.clear();
        due("slot 0 after clear()", graph.restore(0), NOT_POSSIBLE);
        graph.save(0);
        due("a slot in which no nodes were saved", graph.restore(0), 0);
    }

    private static void promise25WithOverflow() {
        CHECKS.sentence("h becomes 31 * h + value (as longs, with overflow)");
        due("of a new object", new GradeGraph().checksum(), 112712967487L);
        for (int kind = SOURCE; kind <= BLEND; kind++) {
            GradeGraph graph = new GradeGraph();
            for (int node = 0; node < 12; node++) {
                graph.addNode(kind);
            }
            if (kind != SOURCE) {
                graph.connect(4, 0, 9);
            }
            graph.setRange(3, 5, 6);
            for (int frame = 8; frame < 12; frame++) {
                graph.value(4, frame, 0, 0, 0);
                graph.value(11, frame, 0, 0, 0);
            }
            graph.value(0, 0, 0, 0, 0);
            due("of twelve nodes of kind " + kind, graph.checksum(), mixed(values(graph)));
        }
    }

    /** What the document tells to be in the checksum, as the calls answer it. */
    private static List<Long> values(GradeGraph graph) {
        int[] inputs = {0, 1, 1, 1, 1, 1, 3};
        int[] parameters = {1, 3, 3, 0, 1, 4, 0};
        List<Long> values = new ArrayList<>();
        values.add((long) graph.nodes());
        for (int node = 0; node < graph.nodes(); node++) {
            int kind = graph.node(node, 0);
            for (int what = 0; what <= 5; what++) {
                values.add((long) graph.node(node, what));
            }
            for (int input = 0; input < inputs[kind]; input++) {
                values.add((long) graph.input(node, input));
            }
            for (int parameter = 0; parameter < parameters[kind]; parameter++) {
                values.add((long) graph.parameter(node, parameter));
            }
        }
        for (int what = 0; what <= 4; what++) {
            values.add((long) graph.count(what));
        }
        for (int node = 0; node < graph.nodes(); node++) {
            for (int frame = 0; frame <= 9; frame++) {
                values.add((long) graph.isCached(node, frame));
            }
        }
        return values;
    }

    private static long mixed(List<Long> values) {
        long h = 127;
        for (long value : values) {
            h = 31 * h + value;
        }
        return h;
    }

    private static void promise25AsksForNoPictures() {
        CHECKS.sentence("(It asks for no pictures.)");
        GradeGraph graph = Checks.built("s(3)");
        for (int frame = 0; frame < 16; frame++) {
            graph.value(0, frame, 0, 0, 0);
        }
        long first = graph.checksum();
        due("once more", graph.checksum(), first);
        due("no hit", graph.count(1), 0);
        due("no miss", graph.count(2), 16);
        graph.value(0, 16, 0, 0, 0);
        due("and none was used", graph.isCached(0, 0), 0);
    }
}
