/** Promises 15 to 17: the cache, its room and its counts. */
public final class CacheTest {
    private static final int BAD_INDEX = GradeGraph.BAD_INDEX, BAD_VALUE = GradeGraph.BAD_VALUE;
    private static final Checks CHECKS = new Checks();

    public static void main(String[] arguments) {
        promise15SetRoom();
        promise15SetRoomDropsTheOldest();
        promise16IsCached();
        promise16IsCachedUsesNothing();
        promise17Count();
        promise17CountsOfAsking();
        promise17CountsOutsideOfRange();
        promise17CountsOfDropping();
        usedLongestAgoIsDropped();
        inputsAreNeverDropped();
        twelveNodesFitIntoTwelve();
        CHECKS.finish("CacheTest");
    }

    private static void due(String call, long got, long want) {
        CHECKS.due(call, got, want);
    }

    private static void look(GradeGraph graph, int node, int frame) {
        graph.value(node, frame, 0, 0, 0);
    }

    /** The frames of a node that are in the cache, in ascending order, each with a blank ahead of it. */
    private static String frames(GradeGraph graph, int node) {
        StringBuilder frames = new StringBuilder();
        for (int frame = 0; frame < 100; frame++) {
            if (graph.isCached(node, frame) == 1) {
                frames.append(' ').append(frame);
            }
        }
        return frames.toString();
    }

    private static void promise15SetRoom() {
        GradeGraph graph = new GradeGraph();
        due("15: setRoom(12)", graph.setRoom(12), 16);
        due("15: setRoom(11)", graph.setRoom(11), BAD_VALUE);
        due("15: setRoom(48)", graph.setRoom(48), 12);
        due("15: setRoom(49)", graph.setRoom(49), BAD_VALUE);
        due("15: setRoom(-12)", graph.setRoom(-12), BAD_VALUE);
        due("15: setRoom(48)", graph.setRoom(48), 48);
    }

    private static void promise15SetRoomDropsTheOldest() {
        GradeGraph graph = Checks.built("s(0)");
        graph.setRoom(48);
        for (int frame = 0; frame < 60; frame++) {
            look(graph, 0, frame);
        }
        due("15: 48 pictures", graph.count(0), 48);
        due("15: twelve are dropped", graph.count(3), 12);
        look(graph, 0, 12);
        look(graph, 0, 30);
        due("15: setRoom(14)", graph.setRoom(14), 48);
        due("15: 14 pictures", graph.count(0), 14);
        due("15: they are dropped for there is no room", graph.count(3), 46);
        due("15: none became void", graph.count(4), 0);
        CHECKS.holds("15: the last ones stay", frames(graph, 0).equals(" 12 30 48 49 50 51 52 53 54 55 56 57 58 59"));
        due("15: setRoom(15)", graph.setRoom(15), 14);
        due("15: more room drops none", graph.count(0), 14);
        look(graph, 0, 0);
        look(graph, 0, 1);
        due("15: the new room holds", graph.count(0), 15);
        due("15: the oldest one is dropped", graph.isCached(0, 48), 0);
        due("15: just this one", graph.isCached(0, 49), 1);
        graph.setRoom(15);
        due("15: the same room drops none", graph.count(3), 47);
    }

    private static void promise16IsCached() {
        GradeGraph graph = Checks.built("i(s(0))");
        due("16: isCached(1, 7)", graph.isCached(1, 7), 0);
        look(graph, 1, 7);
        due("16: isCached(1, 7)", graph.isCached(1, 7), 1);
        due("16: isCached(0, 7)", graph.isCached(0, 7), 1);
        due("16: isCached(1, 8)", graph.isCached(1, 8), 0);
        due("16: isCached(2, 7)", graph.isCached(2, 7), BAD_INDEX);
        due("16: isCached(-1, 7)", graph.isCached(-1, 7), BAD_INDEX);
        due("16: isCached(1, -1)", graph.isCached(1, -1), BAD_INDEX);
        due("16: isCached(1, 100)", graph.isCached(1, 100), BAD_INDEX);
        look(graph, 1, 99);
        due("16: isCached(1, 99)", graph.isCached(1, 99), 1);
    }

    private static void promise16IsCachedUsesNothing() {
        GradeGraph graph = Checks.built("s(0)");
        graph.setRoom(12);
        for (int frame = 0; frame < 12; frame++) {
            look(graph, 0, frame);
        }
        due("16: isCached(0, 0)", graph.isCached(0, 0), 1);
        due("16: it is no hit", graph.count(1), 0);
        look(graph, 0, 50);
        due("16: it was not used", graph.isCached(0, 0), 0);
        due("16: it asks for nothing", graph.count(2), 13);
    }

    private static void promise17Count() {
        GradeGraph graph = new GradeGraph();
        due("17: count(-1)", graph.count(-1), BAD_INDEX);
        due("17: count(5)", graph.count(5), BAD_INDEX);
        due("17: count(4)", graph.count(4), 0);
    }

    private static void counts(String what, GradeGraph graph, int... want) {
        for (int number = 0; number < want.length; number++) {
            due("17: " + what + ": count(" + number + ")", graph.count(number), want[number]);
        }
    }

    private static void promise17CountsOfAsking() {
        GradeGraph graph = Checks.built("b(s(1),s(2),s(3))");
        look(graph, 3, 0);
        counts("a blend", graph, 4, 0, 4, 0, 0);
        look(graph, 3, 0);
        counts("a hit asks for no input", graph, 4, 1, 4, 0, 0);
        look(graph, 0, 0);
        counts("a hit of an input", graph, 4, 2, 4, 0, 0);
        graph.connect(3, 1, 0);
        graph.connect(3, 2, 0);
        counts("two changes", graph, 3, 2, 4, 0, 1);
        look(graph, 3, 0);
        counts("three times the same input", graph, 4, 5, 5, 0, 1);
        look(graph, 3, 1);
        counts("a miss, then two hits", graph, 6, 7, 7, 0, 1);
        graph.connect(3, 0, GradeGraph.NONE);
        look(graph, 3, 0);
        counts("an input that is none is not asked for", graph, 5, 9, 8, 0, 3);
        graph.clear();
        counts("clear() is not counted", graph, 0, 9, 8, 0, 3);
    }

    private static void promise17CountsOutsideOfRange() {
        GradeGraph graph = Checks.built("b(s(1),s(2),s(3))");
        graph.setRange(3, 5, 5);
        look(graph, 3, 4);
        counts("outside only input 0", graph, 2, 0, 2, 0, 0);
        due("17: the node's picture is its own", graph.isCached(3, 4), 1);
        due("17: the input's too", graph.isCached(0, 4), 1);
        due("17: input 1 is not asked for", graph.isCached(1, 4), 0);
        graph.connect(3, 0, GradeGraph.NONE);
        look(graph, 3, 4);
        counts("outside without input 0", graph, 2, 0, 3, 0, 1);
        graph.setRange(0, 50, 60);
        look(graph, 0, 4);
        counts("a black source is a picture too", graph, 2, 0, 4, 0, 2);
        // A gain of nothing or a key that is 0 everywhere asks all the same.
        graph = Checks.built("k(g(s(1),0),0,9,8,0)");
        look(graph, 2, 0);
        counts("whatever its parameters are", graph, 3, 0, 3, 0, 0);
    }

    private static void promise17CountsOfDropping() {
        GradeGraph graph = Checks.built("i(s(1))");
        for (int frame = 0; frame < 10; frame++) {
            look(graph, 1, frame);
        }
        counts("twenty pictures for a room of 16", graph, 16, 0, 20, 4, 0);
        due("17: set(0, 0, 1)", graph.set(0, 0, 1), 16);
        counts("all are void", graph, 0, 0, 20, 4, 16);
        look(graph, 1, 3);
        graph.save(0);
        graph.restore(0);
        counts("restore() is not counted", graph, 0, 0, 22, 4, 16);
    }

    private static void usedLongestAgoIsDropped() {
        GradeGraph graph = Checks.built("s(0)");
        graph.setRoom(12);
        for (int frame = 0; frame < 12; frame++) {
            look(graph, 0, frame);
        }
        look(graph, 0, 0);
        look(graph, 0, 2);
        graph.compare(0, 0, 1);
        for (int frame = 20; frame < 23; frame++) {
            look(graph, 0, frame);
        }
        CHECKS.holds("the oldest three are dropped", frames(graph, 0).equals(" 0 1 2 6 7 8 9 10 11 20 21 22"));
    }

    private static void inputsAreNeverDropped() {
        // the order of use: an input first, then what is made of it
        GradeGraph graph = Checks.built("i(s(0))");
        graph.setRoom(12);
        for (int frame = 0; frame < 6; frame++) {
            look(graph, 1, frame);
        }
        look(graph, 0, 50);
        due("the first input is the oldest", graph.isCached(0, 0), 0);
        due("what is made of it is not", graph.isCached(1, 0), 1);
        look(graph, 1, 50);
        due("then what is made of it", graph.isCached(1, 0), 0);
        due("the next input stays", graph.isCached(0, 1), 1);
        // a hit does not use its inputs
        look(graph, 1, 1);
        look(graph, 0, 51);
        due("the input is the oldest one", graph.isCached(0, 1), 0);
        due("what was hit stays", graph.isCached(1, 1), 1);
    }

    private static void twelveNodesFitIntoTwelve() {
        GradeGraph graph = Checks.built("s(9)");
        graph.setRoom(12);
        for (int node = 1; node < 12; node++) {
            graph.addNode(GradeGraph.BLEND);
            graph.connect(node, 0, node - 1);
            graph.connect(node, 1, 0);
            graph.connect(node, 2, node - 1);
        }
        graph.value(11, 0, 0, 0, 0);
        due("twelve pictures", graph.count(0), 12);
        due("twelve misses", graph.count(2), 12);
        due("two hits for each blend", graph.count(1), 22);
        graph.value(11, 1, 0, 0, 0);
        due("all pictures of the first frame are dropped", graph.count(3), 12);
        due("twelve more misses", graph.count(2), 24);
        due("no more hits than before", graph.count(1), 44);
        for (int node = 0; node < 12; node++) {
            due("the picture of " + node, graph.isCached(node, 1), 1);
        }
        due("two nodes of twelve", graph.compare(0, 11, 2) >= 0 ? 1 : 0, 1);
        due("compare() asks for the first one first", graph.count(1), 44 + 23);
        due("a circle of the last node", graph.connect(1, 1, 11), GradeGraph.NOT_POSSIBLE);
        due("twelve pictures depend on the first node", graph.set(0, 0, 9), 12);
    }
}
