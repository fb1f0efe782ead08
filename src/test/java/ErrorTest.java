/** Wrong inputs in every call: the error that is due, no exception, and nothing changes. */
public final class ErrorTest {
    private static final int BAD_INDEX = GradeGraph.BAD_INDEX, BAD_VALUE = GradeGraph.BAD_VALUE;
    private static final int NOT_POSSIBLE = GradeGraph.NOT_POSSIBLE, FULL = GradeGraph.FULL;
    private static final int[] ODD = {
        Integer.MIN_VALUE, Integer.MIN_VALUE + 1, -1005, -1001, -256, -2, -1, 0, 1, 2, 3, 4, 5, 6, 7, 8, 11, 12, 13,
        15, 16, 48, 49, 79, 80, 99, 100, 127, 128, 255, 256, 999, 1000, 1 << 16, 1 << 30, Integer.MAX_VALUE - 1,
        Integer.MAX_VALUE,
    };
    private static final Checks CHECKS = new Checks();

    public static void main(String[] arguments) {
        errorsChangeNothing();
        everyCallTakesAnything();
        CHECKS.finish("ErrorTest");
    }

    private static void due(String call, long got, long want) {
        CHECKS.due(call, got, want);
    }

    /** A full graph, a full cache and a full text with a fault. */
    private static GradeGraph scene() {
        GradeGraph graph = Checks.built("b(i(s(1)),g(s(2),20),k(l(s(3),1),1,20,200,30))");
        Checks.write(graph, "k(t(n(7),-30),2,0,0,0)");
        graph.build();
        graph.addNode(GradeGraph.BLEND);
        graph.connect(10, 1, 9);
        graph.addNode(GradeGraph.SOURCE);
        graph.setRange(10, 2, 6);
        graph.save(0);
        graph.setRoom(13);
        for (int frame = 0; frame < 9; frame++) {
            graph.value(10, frame, 0, 0, 0);
        }
        graph.set(11, 0, 5);
        Checks.write(graph, "i(i(i(i(i(s(11111111111111111111111111111111111111111111111111111111111111111111111");
        while (graph.append('1') > 0) {
            graph.nodes();
        }
        return graph;
    }

    private static void errorsChangeNothing() {
        GradeGraph graph = scene();
        GradeGraph twin = scene();
        due("twelve nodes", graph.nodes(), 12);
        due("addNode(7)", graph.addNode(7), BAD_VALUE);
        due("addNode(0)", graph.addNode(0), FULL);
        due("connect(12, 0, 0)", graph.connect(12, 0, 0), BAD_INDEX);
        due("connect(10, 0, 12)", graph.connect(10, 0, 12), BAD_INDEX);
        due("connect(0, 0, 10)", graph.connect(0, 0, 10), BAD_INDEX);
        due("connect(1, 0, 10)", graph.connect(1, 0, 10), NOT_POSSIBLE);
        due("connect(7, 1, 10)", graph.connect(7, 1, 10), NOT_POSSIBLE);
        due("connect(7, 0, 7)", graph.connect(7, 0, 7), NOT_POSSIBLE);
        due("set(6, 4, 0)", graph.set(6, 4, 0), BAD_INDEX);
        due("set(0, 0, 1000)", graph.set(0, 0, 1000), BAD_VALUE);
        due("setRange(12, 0, 0)", graph.setRange(12, 0, 0), BAD_INDEX);
        due("setRange(0, 9, 8)", graph.setRange(0, 9, 8), BAD_VALUE);
        due("value(10, 100, 0, 0, 0)", graph.value(10, 100, 0, 0, 0), BAD_INDEX);
        due("scope(10, 20, 0, 16)", graph.scope(10, 20, 0, 16), BAD_INDEX);
        due("sum(10, 20, 0, 4)", graph.sum(10, 20, 0, 4), BAD_VALUE);
        due("compare(10, 12, 20)", graph.compare(10, 12, 20), BAD_INDEX);
        due("setRoom(11)", graph.setRoom(11), BAD_VALUE);
        due("append(128)", graph.append(128), BAD_VALUE);
        due("append('1')", graph.append('1'), FULL);
        due("build()", graph.build(), NOT_POSSIBLE);
        due("save(2)", graph.save(2), BAD_INDEX);
        due("restore(1)", graph.restore(1), NOT_POSSIBLE);
        due("restore(2)", graph.restore(2), BAD_INDEX);
        Checks.write(graph, "s(1)");
        due("build() to thirteen", graph.build(), FULL);
        Checks.write(twin, "s(1)");
        sameState(graph, twin);
    }

    private static void sameState(GradeGraph graph, GradeGraph twin) {
        due("checksum()", graph.checksum(), twin.checksum());
        for (int node = 0; node < 12; node++) {
            for (int frame = 0; frame < 100; frame++) {
                due("isCached(" + node + ", " + frame + ")", graph.isCached(node, frame), twin.isCached(node, frame));
            }
        }
        // The order of use shows when more is asked for.
        for (int frame = 0; frame < 12; frame++) {
            due("value() of a source", graph.value(11, frame, 0, 0, 0), twin.value(11, frame, 0, 0, 0));
            due("checksum() then", graph.checksum(), twin.checksum());
        }
        due("restore(0)", graph.restore(0), twin.restore(0));
        due("checksum() of the slot", graph.checksum(), twin.checksum());
        due("setRoom(12)", graph.setRoom(12), twin.setRoom(12));
        due("clearText()", graph.clearText(), twin.clearText());
    }

    /** Any arguments in some states: no call throws, and answers are no unknown constants. */
    private static void everyCallTakesAnything() {
        for (int state = 0; state < 3; state++) {
            GradeGraph graph = state == 0 ? new GradeGraph() : state == 1 ? Checks.built("b(s(1),i(s(2)),k(s(3),0,0,0,0))") : scene();
            for (int a : ODD) {
                answers(graph.addNode(a), graph.count(a), graph.append(a), graph.save(a), graph.setRoom(a), graph.restore(a));
                for (int b : ODD) {
                    answers(graph.node(a, b), graph.input(a, b), graph.isCached(a, b));
                    graph.parameter(a, b);
                    for (int c : ODD) {
                        answers(graph.connect(a, b, c), graph.set(a, b, c), graph.setRange(a, b, c), graph.compare(a, b, c));
                    }
                }
                answers(graph.faultPosition(), graph.faultDepth(), graph.build());
            }
            looks(graph);
            answers(graph.clear(), graph.clearText());
        }
    }

    private static void looks(GradeGraph graph) {
        for (int a : ODD) {
            for (int b : ODD) {
                for (int c : ODD) {
                    answers(graph.scope(0, a, b, c), graph.sum(a, 0, b, c), graph.value(a, b, c, 0, 0), graph.value(0, 0, a, b, c));
                }
            }
        }
    }

    private static void answers(int... answers) {
        for (int answer : answers) {
            CHECKS.holds("answer " + answer, answer >= 0 && answer <= 8160 || answer >= -1005 && answer <= -1001);
        }
    }
}
