/** Promises 23 to 25: the slots and the checksum. */
public final class SlotTest {
    private static final int BAD_INDEX = GradeGraph.BAD_INDEX, NOT_POSSIBLE = GradeGraph.NOT_POSSIBLE, NONE = GradeGraph.NONE;
    private static final Checks CHECKS = new Checks();

    public static void main(String[] arguments) {
        promise23Save();
        promise23SaveOfNothing();
        promise24Restore();
        promise24RestoreKeepsTheRest();
        promise25Checksum();
        promise25ChecksumAsksForNothing();
        CHECKS.finish("SlotTest");
    }

    private static void due(String call, long got, long want) {
        CHECKS.due(call, got, want);
    }

    private static void promise23Save() {
        GradeGraph graph = Checks.built("i(s(3))");
        graph.value(1, 0, 0, 0, 0);
        due("23: save(-1)", graph.save(-1), BAD_INDEX);
        due("23: save(2)", graph.save(2), BAD_INDEX);
        due("23: save(0)", graph.save(0), 2);
        due("23: save() empties nothing", graph.count(0), 2);
        due("23: slot 1 is empty still", graph.restore(1), NOT_POSSIBLE);
        graph.addNode(GradeGraph.BLUR);
        due("23: save(1)", graph.save(1), 3);
        graph.set(0, 0, 44);
        graph.setRange(1, 5, 6);
        graph.connect(1, 0, NONE);
        graph.set(2, 0, 3);
        due("23: restore(1)", graph.restore(1), 3);
        due("23: the parameter is as it was", graph.parameter(0, 0), 3);
        due("23: the range is as it was", graph.node(1, 1), 0);
        due("23: the range is as it was", graph.node(1, 2), 99);
        due("23: the input is as it was", graph.input(1, 0), 0);
        due("23: the reach is as it was", graph.parameter(2, 0), 1);
        due("23: save(0) in place of it", graph.save(0), 3);
        due("23: restore(0)", graph.restore(0), 3);
    }

    private static void promise23SaveOfNothing() {
        GradeGraph graph = new GradeGraph();
        due("23: save(0) of nothing", graph.save(0), 0);
        graph.addNode(GradeGraph.KEY);
        due("23: restore(0) of nothing", graph.restore(0), 0);
        due("23: nodes()", graph.nodes(), 0);
        due("23: restore(1)", graph.restore(1), NOT_POSSIBLE);
    }

    private static void promise24Restore() {
        GradeGraph graph = new GradeGraph();
        for (int node = 0; node < 3; node++) {
            graph.addNode(GradeGraph.BLEND);
        }
        graph.connect(0, 1, 2);
        graph.connect(2, 2, 1);
        graph.setRange(2, 7, 8);
        graph.save(1);
        due("24: restore(-1)", graph.restore(-1), BAD_INDEX);
        due("24: restore(2)", graph.restore(2), BAD_INDEX);
        due("24: restore(0)", graph.restore(0), NOT_POSSIBLE);
        due("24: the nodes stay", graph.nodes(), 3);
        graph.clear();
        Checks.write(graph, "g(t(s(1),2),3)");
        graph.build();
        for (int time = 0; time < 2; time++) {
            due("24: restore(1)", graph.restore(1), 3);
            due("24: input(0, 0)", graph.input(0, 0), NONE);
            due("24: input(0, 1)", graph.input(0, 1), 2);
            due("24: input(2, 2)", graph.input(2, 2), 1);
            due("24: node(2, 1)", graph.node(2, 1), 7);
            due("24: node(2, 2)", graph.node(2, 2), 8);
            due("24: place of 0", graph.node(0, 4), 2);
            due("24: place of 1", graph.node(1, 4), 0);
            due("24: depth of 0", graph.node(0, 5), 2);
            due("24: dependents of 1", graph.node(1, 3), 3);
            // what is done to the nodes is not done to what the slot keeps
            graph.connect(0, 0, 1);
            graph.connect(0, 1, NONE);
            graph.setRange(2, 0, 3);
            graph.addNode(GradeGraph.SOURCE);
        }
    }

    private static void promise24RestoreKeepsTheRest() {
        GradeGraph graph = Checks.built("i(s(3))");
        graph.setRoom(20);
        graph.value(1, 0, 0, 0, 0);
        graph.value(1, 0, 0, 0, 0);
        graph.set(1, 0, 0);
        graph.connect(1, 0, 0);
        graph.save(0);
        due("24: restore(0)", graph.restore(0), 2);
        due("24: the cache is empty", graph.count(0), 0);
        due("24: isCached(0, 0)", graph.isCached(0, 0), 0);
        due("24: hits stay", graph.count(1), 1);
        due("24: misses stay", graph.count(2), 2);
        due("24: none was dropped", graph.count(3), 0);
        due("24: void ones stay", graph.count(4), 1);
        due("24: the room stays", graph.setRoom(20), 20);
        due("24: the text stays", graph.clearText(), 7);
        graph.value(1, 0, 0, 0, 0);
        due("24: restore(1)", graph.restore(1), NOT_POSSIBLE);
        due("24: an error does not empty the cache", graph.count(0), 2);
    }

    private static long mixed(long... values) {
        long h = 127;
        for (long value : values) {
            h = 31 * h + value;
        }
        return h;
    }

    private static void promise25Checksum() {
        GradeGraph graph = new GradeGraph();
        due("25: of nothing", graph.checksum(), mixed(0, 0, 0, 0, 0, 0));
        due("25: of nothing, as a number", graph.checksum(), 112712967487L);
        graph.addNode(GradeGraph.KEY);
        graph.addNode(GradeGraph.SOURCE);
        graph.connect(0, 0, 1);
        graph.set(0, 1, 9);
        graph.set(1, 0, 77);
        graph.setRange(0, 4, 50);
        graph.value(0, 9, 0, 0, 0);
        graph.value(1, 10, 0, 0, 0);
        graph.value(1, 0, 0, 0, 0);
        graph.value(1, 0, 0, 0, 0);
        graph.value(1, 11, 0, 0, 0);
        graph.value(0, 3, 0, 0, 0);
        due("25: setRange(0, 3, 50)", graph.setRange(0, 3, 50), 1);
        long want = mixed(2,
            5, 3, 50, 1, 1, 1, 1, 0, 9, 255, 0,
            0, 0, 99, 2, 0, 0, 77,
            6, 1, 7, 0, 1,
            0, 0, 0, 0, 0, 0, 0, 0, 0, 1,
            1, 0, 0, 1, 0, 0, 0, 0, 0, 1);
        due("25: of two nodes", graph.checksum(), want);
        graph.connect(0, 0, NONE);
        want = mixed(2,
            5, 3, 50, 1, 0, 0, NONE, 0, 9, 255, 0,
            0, 0, 99, 1, 1, 0, 77,
            5, 1, 7, 0, 2,
            0, 0, 0, 0, 0, 0, 0, 0, 0, 0,
            1, 0, 0, 1, 0, 0, 0, 0, 0, 1);
        due("25: of two nodes that are apart", graph.checksum(), want);
    }

    private static void promise25ChecksumAsksForNothing() {
        GradeGraph graph = Checks.built("i(s(3))");
        graph.value(1, 4, 0, 0, 0);
        long before = graph.checksum();
        due("25: once more", graph.checksum(), before);
        due("25: no hit", graph.count(1), 0);
        due("25: no miss", graph.count(2), 2);
    }
}
