/** The sentences under "The cache" and of promises 15 to 17 that name an edge: a test for each. */
public final class EdgeCacheTest {
    private static final int BAD_INDEX = GradeGraph.BAD_INDEX, BAD_VALUE = GradeGraph.BAD_VALUE, NONE = GradeGraph.NONE;
    private static final int SOURCE = GradeGraph.SOURCE, INVERT = GradeGraph.INVERT, BLEND = GradeGraph.BLEND;
    private static final int[] FAR = {Integer.MIN_VALUE, -1005, -1, 1000, Integer.MAX_VALUE};
    private static final Checks CHECKS = new Checks();

    public static void main(String[] arguments) {
        roomAtFirst();
        roomFrom12To48();
        hitOrMiss();
        ascendingOrderOfInputs();
        allInputsWhateverItsParametersAre();
        outsideOnlyInput0();
        usedLongestAgoIsDropped();
        droppedFirstIfThereIsNoRoom();
        neverOneOfItsInputs();
        twoInputsTheSame();
        voidOfAllThatDepend();
        voidByParameter();
        voidByInput();
        voidByRange();
        voidByRangeOfSource();
        voidOfAFullCache();
        promise15NoRoom();
        promise15Returns();
        promise16DoesNotUseIt();
        promise16Returns();
        promise17PicturesInTheCache();
        promise17HitsAndMisses();
        promise17Dropped();
        promise17Void();
        promise17Returns();
        call512();
        CHECKS.finish("EdgeCacheTest");
    }

    private static void due(String call, long got, long want) {
        CHECKS.due(call, got, want);
    }

    private static void look(GradeGraph graph, int node, int from, int to) {
        for (int frame = from; frame <= to; frame++) {
            graph.value(node, frame, 0, 0, 0);
        }
    }

    private static void counts(String when, GradeGraph graph, int... want) {
        for (int what = 0; what < want.length; what++) {
            due(when + ": count(" + what + ")", graph.count(what), want[what]);
        }
    }

    /** Checks in which of some frames the picture of a node is in the cache. */
    private static void kept(String when, GradeGraph graph, int node, int[] frames, int... want) {
        for (int index = 0; index < frames.length; index++) {
            due(when + ": isCached(" + node + ", " + frames[index] + ")", graph.isCached(node, frames[index]), want[index]);
        }
    }

    private static void roomAtFirst() {
        CHECKS.sentence("The cache has room for some pictures, from 12 to 48, at first 16.");
        GradeGraph graph = Checks.built("s(1)");
        look(graph, 0, 0, 15);
        counts("sixteen", graph, 16, 0, 16, 0, 0);
        due("the first one is there", graph.isCached(0, 0), 1);
        look(graph, 0, 16, 16);
        counts("seventeen", graph, 16, 0, 17, 1, 0);
        due("the first one is dropped", graph.isCached(0, 0), 0);
        due("the second one is there", graph.isCached(0, 1), 1);
    }

    private static void roomFrom12To48() {
        CHECKS.sentence("room: 12 to 48");
        for (int room : new int[] {12, 13, 47, 48}) {
            GradeGraph graph = Checks.built("s(1)");
            due("setRoom(" + room + ")", graph.setRoom(room), 16);
            look(graph, 0, 0, room - 1);
            counts("a full room of " + room, graph, room, 0, room, 0, 0);
            look(graph, 0, room, room);
            counts("one more than " + room, graph, room, 0, room + 1, 1, 0);
            due("the first one is dropped", graph.isCached(0, 0), 0);
            due("the second one is there", graph.isCached(0, 1), 1);
            due("the last one is there", graph.isCached(0, room), 1);
        }
        GradeGraph graph = Checks.built("s(1)");
        due("setRoom(11)", graph.setRoom(11), BAD_VALUE);
        due("setRoom(49)", graph.setRoom(49), BAD_VALUE);
        look(graph, 0, 0, 16);
        counts("the room stays as it was", graph, 16, 0, 17, 1, 0);
    }

    private static void hitOrMiss() {
        CHECKS.sentence("if it is in the cache, this is a hit, and it is used; otherwise it is a miss");
        GradeGraph graph = Checks.built("i(s(1))");
        look(graph, 1, 0, 0);
        counts("two misses", graph, 2, 0, 2, 0, 0);
        look(graph, 1, 0, 0);
        counts("a hit, and its input is not asked for", graph, 2, 1, 2, 0, 0);
        look(graph, 1, 1, 1);
        counts("another frame is another picture", graph, 4, 1, 4, 0, 0);
        look(graph, 0, 1, 1);
        counts("an input's picture", graph, 4, 2, 4, 0, 0);
        graph.scope(1, 0, 0, 0);
        graph.sum(1, 0, 0, 0);
        graph.compare(1, 0, 0);
        counts("four hits", graph, 4, 6, 4, 0, 0);
    }

    private static void ascendingOrderOfInputs() {
        CHECKS.sentence("the pictures of its inputs are asked for, in ascending order of inputs");
        int[][] turns = {{0, 1, 2}, {0, 2, 1}, {1, 0, 2}, {1, 2, 0}, {2, 0, 1}, {2, 1, 0}};
        for (int[] turn : turns) {
            GradeGraph graph = Checks.built("s(1)");
            graph.addNode(SOURCE);
            graph.addNode(SOURCE);
            graph.addNode(BLEND);
            graph.addNode(SOURCE);
            graph.setRoom(12);
            for (int input = 0; input < 3; input++) {
                graph.connect(3, input, turn[input]);
            }
            graph.value(3, 0, 0, 0, 0);
            look(graph, 4, 1, 8);
            for (int input = 0; input < 3; input++) {
                due("input " + input + " is there still", graph.isCached(turn[input], 0), 1);
                look(graph, 4, 9 + input, 9 + input);
                due("input " + input + " is the next one to be dropped", graph.isCached(turn[input], 0), 0);
            }
            due("the node's own picture is there still", graph.isCached(3, 0), 1);
            look(graph, 4, 12, 12);
            due("then the node's own picture", graph.isCached(3, 0), 0);
        }
    }

    private static void allInputsWhateverItsParametersAre() {
        CHECKS.sentence("(in its range of all inputs that are nodes, whatever its parameters are;");
        String[] texts = {"g(s(1),0)", "t(s(1),-255)", "t(s(1),255)", "l(s(1),0)", "k(s(1),0,255,0,0)", "k(s(1),0,0,255,0)"};
        for (String text : texts) {
            GradeGraph graph = Checks.built(text);
            look(graph, 1, 5, 5);
            counts(text, graph, 2, 0, 2, 0, 0);
            due(text + ": its input", graph.isCached(0, 5), 1);
        }
        // a mask of 0 everywhere, then one of 255 everywhere: all the same
        for (String mask : new String[] {"g(s(3),0)", "t(s(3),255)"}) {
            GradeGraph graph = Checks.built("b(s(1),s(2)," + mask + ")");
            look(graph, 4, 5, 5);
            counts(mask, graph, 5, 0, 5, 0, 0);
        }
        GradeGraph graph = Checks.built("s(1)");
        for (int input = 0; input < 3; input++) {
            int blend = graph.addNode(BLEND);
            graph.connect(blend, input, 0);
            look(graph, blend, input, input);
            due("input " + input + " alone", graph.isCached(0, input), 1);
        }
        counts("inputs that are none are not asked for", graph, 6, 0, 6, 0, 0);
    }

    private static void outsideOnlyInput0() {
        CHECKS.sentence("outside of its range only of input 0, if it is a node");
        GradeGraph graph = Checks.built("b(s(1),s(2),s(3))");
        graph.setRange(3, 5, 6);
        int[] frames = {4, 5, 6, 7};
        look(graph, 3, 4, 7);
        kept("input 0", graph, 0, frames, 1, 1, 1, 1);
        kept("input 1", graph, 1, frames, 0, 1, 1, 0);
        kept("input 2", graph, 2, frames, 0, 1, 1, 0);
        counts("twelve pictures", graph, 12, 0, 12, 0, 0);
        graph.connect(3, 0, NONE);
        look(graph, 3, 4, 4);
        counts("without input 0", graph, 9, 0, 13, 0, 4);
        graph = Checks.built("s(1)");
        graph.setRange(0, 5, 5);
        look(graph, 0, 4, 4);
        counts("a source", graph, 1, 0, 1, 0, 0);
    }

    private static void usedLongestAgoIsDropped() {
        CHECKS.sentence("if there is no room for it, the picture that was used longest ago is dropped first");
        GradeGraph graph = Checks.built("i(s(1))");
        graph.setRoom(12);
        look(graph, 0, 0, 11);
        // a use by each call that asks, and a use as an input
        graph.value(0, 0, 0, 0, 0);
        graph.scope(0, 1, 0, 0);
        graph.sum(0, 2, 0, 0);
        graph.compare(0, 0, 3);
        int[] frames = {0, 1, 2, 3, 4, 5, 6, 7};
        graph.value(1, 5, 0, 0, 0);
        kept("one more", graph, 0, frames, 1, 1, 1, 1, 0, 1, 1, 1);
        look(graph, 0, 20, 21);
        kept("two more", graph, 0, frames, 1, 1, 1, 1, 0, 1, 0, 0);
        look(graph, 0, 22, 25);
        kept("8 to 11 are gone", graph, 0, new int[] {8, 9, 10, 11}, 0, 0, 0, 0);
        look(graph, 0, 26, 26);
        kept("in the order of their uses", graph, 0, frames, 0, 1, 1, 1, 0, 1, 0, 0);
        look(graph, 0, 27, 29);
        kept("the input was used later", graph, 0, frames, 0, 0, 0, 0, 0, 1, 0, 0);
        due("what was made of it too", graph.isCached(1, 5), 1);
        look(graph, 0, 30, 30);
        due("the input was used ahead of what was made of it", graph.isCached(0, 5), 0);
        due("that is there", graph.isCached(1, 5), 1);
        look(graph, 0, 31, 31);
        due("until one more comes", graph.isCached(1, 5), 0);
    }

    private static void droppedFirstIfThereIsNoRoom() {
        CHECKS.sentence("it is made, and comes into the cache, and is used; if there is no room for it, ..");
        // the picture that is asked for is itself the oldest one: it is a hit, and none is dropped
        GradeGraph graph = Checks.built("i(s(1))");
        graph.setRoom(12);
        look(graph, 0, 0, 11);
        look(graph, 0, 0, 0);
        counts("a hit in a full cache", graph, 12, 1, 12, 0, 0);
        // the input is the oldest one: it is used first, and another one is dropped
        look(graph, 1, 1, 1);
        counts("a picture of the oldest one", graph, 12, 2, 13, 1, 0);
        kept("the input stays", graph, 0, new int[] {0, 1, 2, 3}, 1, 1, 0, 1);
        // a picture that became void leaves room
        due("setRange()", graph.setRange(1, 1, 1), 0);
        due("set()", graph.connect(1, 0, 0), 1);
        look(graph, 0, 50, 50);
        counts("into the gap", graph, 12, 2, 14, 1, 1);
        look(graph, 0, 51, 51);
        counts("no gap any more", graph, 12, 2, 15, 2, 1);
    }

    private static void neverOneOfItsInputs() {
        CHECKS.sentence("(This is never one of its inputs, for there is room for a picture of each node.");
        // nodes 0 to 8 are sources, 9 and 10 blend three of them each, 11 blends these
        GradeGraph graph = Checks.built("s(10)");
        for (int seed = 11; seed < 19; seed++) {
            Checks.write(graph, "s(" + seed + ")");
            graph.build();
        }
        Checks.write(graph, "b(n(0),n(1),n(2))");
        graph.build();
        Checks.write(graph, "b(n(3),n(4),n(5))");
        graph.build();
        Checks.write(graph, "b(n(9),n(10),n(6))");
        graph.build();
        graph.setRoom(12);
        int[] first = new int[8];
        for (int x = 0; x < 8; x++) {
            first[x] = graph.value(11, 0, x, 2, 1);
        }
        look(graph, 7, 1, 12);
        counts("twelve others", graph, 12, 7, 22, 10, 0);
        for (int x = 0; x < 8; x++) {
            due("again at " + x, graph.value(11, 0, x, 2, 1), first[x]);
        }
        counts("made again once", graph, 12, 14, 32, 20, 0);
        for (int node : new int[] {0, 1, 2, 3, 4, 5, 6, 9, 10, 11}) {
            due("the picture of " + node, graph.isCached(node, 0), 1);
        }
    }

    private static void twoInputsTheSame() {
        CHECKS.sentence("If two inputs are the same node, it is asked for twice.)");
        GradeGraph graph = Checks.built("s(1)");
        int blend = graph.addNode(BLEND);
        graph.connect(blend, 0, 0);
        graph.connect(blend, 2, 0);
        look(graph, blend, 0, 0);
        counts("twice", graph, 2, 1, 2, 0, 0);
        graph.connect(blend, 1, 0);
        look(graph, blend, 0, 0);
        counts("three times", graph, 2, 4, 3, 0, 1);
    }

    private static void voidOfAllThatDepend() {
        CHECKS.sentence("A change of a node makes void, that is, drops from the cache, the pictures of all nodes that depend on it");
        // 0 is an input of 1, that is one of 2 by its last input; 3 stands apart, and so does 4 that 2 is made of too
        GradeGraph graph = Checks.built("i(s(1))");
        graph.addNode(BLEND);
        graph.addNode(INVERT);
        graph.addNode(SOURCE);
        graph.connect(2, 2, 1);
        graph.connect(2, 0, 4);
        for (int node = 0; node < 5; node++) {
            look(graph, node, 8, 9);
        }
        due("of node 1", graph.connect(1, 0, 0), 4);
        int[] want = {1, 0, 0, 1, 1};
        for (int node = 0; node < 5; node++) {
            kept("then", graph, node, new int[] {8, 9}, want[node], want[node]);
        }
        look(graph, 2, 8, 8);
        due("of node 4", graph.set(4, 0, 7), 3);
        kept("what does not depend on it", graph, 1, new int[] {8}, 1);
        look(graph, 2, 8, 8);
        due("of node 0", graph.set(0, 0, 7), 4);
        kept("what does not depend on it", graph, 4, new int[] {8}, 1);
        // a blend outside of its range depends on its inputs all the same
        graph = Checks.built("b(s(1),s(2),s(3))");
        graph.setRange(3, 0, 0);
        look(graph, 3, 5, 5);
        due("of an input that it does not show", graph.set(2, 0, 9), 1);
        due("its picture is void", graph.isCached(3, 5), 0);
        due("what it shows is not", graph.isCached(0, 5), 1);
    }

    private static void voidByParameter() {
        CHECKS.sentence("a change of a parameter concerns the frames of its range");
        int[] frames = {0, 9, 10, 11, 19, 20, 21, 99};
        GradeGraph graph = Checks.built("i(g(s(1),16))");
        graph.setRoom(48);
        graph.setRange(1, 10, 20);
        for (int frame : frames) {
            look(graph, 2, frame, frame);
        }
        due("of node 1", graph.set(1, 2, 0), 8);
        kept("its pictures", graph, 1, frames, 1, 1, 0, 0, 0, 0, 1, 1);
        kept("those of what depends on it", graph, 2, frames, 1, 1, 0, 0, 0, 0, 1, 1);
        kept("those of its input", graph, 0, frames, 1, 1, 1, 1, 1, 1, 1, 1);
        // the range is that of the node that is changed, not that of the ones that depend on it
        graph.setRange(2, 9, 9);
        graph.set(0, 0, 1);
        look(graph, 2, 0, 0);
        due("outside of the range of those", graph.set(0, 0, 1), 3);
        graph.setRange(0, 0, 0);
        look(graph, 2, 0, 1);
        due("one frame alone", graph.set(0, 0, 2), 3);
        kept("the other one", graph, 2, new int[] {0, 1}, 0, 1);
        graph.setRange(0, 99, 99);
        look(graph, 2, 98, 99);
        due("the last frame alone", graph.set(0, 0, 2), 3);
        kept("the other one", graph, 0, new int[] {98, 99}, 1, 0);
    }

    private static void voidByInput() {
        CHECKS.sentence("a change of an input those of its range, and for input 0 all frames");
        int[] frames = {0, 9, 10, 20, 21, 99};
        for (int input = 0; input < 3; input++) {
            GradeGraph graph = Checks.built("i(b(s(1),s(2),s(3)))");
            graph.setRoom(48);
            graph.setRange(3, 10, 20);
            for (int frame : frames) {
                look(graph, 4, frame, frame);
            }
            int other = input == 0 ? 0 : 1;
            due("input " + input, graph.connect(3, input, NONE), input == 0 ? 12 : 4);
            kept("its pictures", graph, 3, frames, other, other, 0, 0, other, other);
            kept("those of what depends on it", graph, 4, frames, other, other, 0, 0, other, other);
            kept("those of input 0", graph, 0, frames, 1, 1, 1, 1, 1, 1);
            kept("those of input 2", graph, 2, frames, 0, 0, 1, 1, 0, 0);
        }
    }

    private static void voidByRange() {
        CHECKS.sentence("a change of its range those frames that are in just one of the old range and the new one");
        int[][] ranges = {{10, 20}, {10, 20}, {11, 20}, {11, 19}, {0, 99}, {30, 40}, {30, 30}, {31, 31}, {0, 31}, {31, 99}, {0, 99}};
        int[] frames = {0, 9, 10, 11, 19, 20, 21, 29, 30, 31, 40, 41, 99};
        int all = 0;
        GradeGraph graph = Checks.built("i(i(s(1)))");
        graph.setRoom(48);
        int[] old = {0, 99};
        for (int[] range : ranges) {
            for (int frame : frames) {
                look(graph, 2, frame, frame);
            }
            int number = 0;
            int[] stays = new int[frames.length];
            for (int index = 0; index < frames.length; index++) {
                boolean wasIn = old[0] <= frames[index] && frames[index] <= old[1];
                boolean isIn = range[0] <= frames[index] && frames[index] <= range[1];
                stays[index] = wasIn == isIn ? 1 : 0;
                number += wasIn == isIn ? 0 : 2;
            }
            String call = "from " + old[0] + ".." + old[1] + " to " + range[0] + ".." + range[1];
            due(call, graph.setRange(1, range[0], range[1]), number);
            for (int index = 7; index < frames.length; index++) {
                due(call + ": its picture in " + frames[index], graph.isCached(1, frames[index]), stays[index]);
            }
            all += number;
            old = range;
        }
        due("void in all", graph.count(4), all);
        due("its input's never", graph.isCached(0, 20) + graph.isCached(0, 30), 2);
        due("none was dropped", graph.count(3), 0);
    }

    private static void voidByRangeOfSource() {
        CHECKS.sentence("(also for a SOURCE)");
        GradeGraph graph = Checks.built("i(s(1))");
        look(graph, 1, 3, 6);
        due("frames 3 and 6", graph.setRange(0, 4, 5), 4);
        int[] frames = {3, 4, 5, 6};
        kept("the source", graph, 0, frames, 0, 1, 1, 0);
        kept("what is made of it", graph, 1, frames, 0, 1, 1, 0);
    }

    private static void voidOfAFullCache() {
        CHECKS.sentence("that is, drops from the cache");
        for (int room : new int[] {12, 48}) {
            GradeGraph graph = Checks.built("s(1)");
            graph.setRoom(room);
            look(graph, 0, 0, 59);
            due("all of a full room of " + room, graph.set(0, 0, 1), room);
            due("nothing is left", graph.set(0, 0, 1), 0);
            counts("the room is empty", graph, 0, 0, 60, 60 - room, room);
            look(graph, 0, 0, room - 1);
            counts("it is filled again", graph, room, 0, 60 + room, 60 - room, room);
        }
        // pictures that were dropped for other reasons do not become void too
        GradeGraph graph = Checks.built("s(1)");
        graph.save(0);
        graph.setRoom(48);
        look(graph, 0, 0, 29);
        graph.setRoom(12);
        due("those that are left", graph.set(0, 0, 1), 12);
        look(graph, 0, 0, 5);
        graph.restore(0);
        due("none after restore()", graph.set(0, 0, 1), 0);
        look(graph, 0, 0, 5);
        graph.clear();
        graph.addNode(SOURCE);
        due("none after clear()", graph.set(0, 0, 1), 0);
        due("void in all", graph.count(4), 12);
    }

    private static void promise15NoRoom() {
        CHECKS.sentence("If it has more pictures, those that were used longest ago are dropped, for there is no room.");
        GradeGraph graph = Checks.built("s(1)");
        graph.setRoom(48);
        look(graph, 0, 0, 19);
        look(graph, 0, 3, 3);
        graph.setRoom(20);
        counts("as many as there are", graph, 20, 1, 20, 0, 0);
        graph.setRoom(19);
        counts("one less", graph, 19, 1, 20, 1, 0);
        due("the oldest one", graph.isCached(0, 0), 0);
        graph.setRoom(12);
        counts("twelve", graph, 12, 1, 20, 8, 0);
        int[] frames = {1, 2, 3, 4, 8, 9, 19};
        kept("those used last stay", graph, 0, frames, 0, 0, 1, 0, 0, 1, 1);
        graph.setRoom(48);
        counts("more room", graph, 12, 1, 20, 8, 0);
        look(graph, 0, 30, 65);
        counts("it is filled", graph, 48, 1, 56, 8, 0);
        look(graph, 0, 66, 66);
        counts("it is full", graph, 48, 1, 57, 9, 0);
        graph = new GradeGraph();
        graph.setRoom(12);
        counts("nothing to drop", graph, 0, 0, 0, 0, 0);
        // what came last can be what was used longest ago
        graph = Checks.built("s(1)");
        graph.setRoom(20);
        look(graph, 0, 0, 19);
        look(graph, 0, 0, 9);
        graph.setRoom(12);
        kept("the first ten were used again", graph, 0, new int[] {0, 9, 10, 14, 17, 18, 19}, 1, 1, 0, 0, 0, 1, 1);
    }

    private static void promise15Returns() {
        CHECKS.sentence("Returns the previous room; BAD_VALUE.");
        GradeGraph graph = new GradeGraph();
        due("setRoom(48)", graph.setRoom(48), 16);
        due("setRoom(48)", graph.setRoom(48), 48);
        due("setRoom(49)", graph.setRoom(49), BAD_VALUE);
        due("setRoom(12)", graph.setRoom(12), 48);
        due("setRoom(11)", graph.setRoom(11), BAD_VALUE);
        due("setRoom(0)", graph.setRoom(0), BAD_VALUE);
        for (int far : FAR) {
            due("setRoom(" + far + ")", graph.setRoom(far), BAD_VALUE);
        }
        due("setRoom(16)", graph.setRoom(16), 12);
    }

    private static void promise16DoesNotUseIt() {
        CHECKS.sentence("1 if the picture is in the cache, 0 if not (this does not use it)");
        GradeGraph graph = Checks.built("s(1)");
        due("not yet", graph.isCached(0, 0), 0);
        counts("it asks for nothing", graph, 0, 0, 0, 0, 0);
        look(graph, 0, 0, 15);
        due("it is there", graph.isCached(0, 0), 1);
        look(graph, 0, 16, 16);
        due("it was not used", graph.isCached(0, 0), 0);
        counts("it is no hit", graph, 16, 0, 17, 1, 0);
    }

    private static void promise16Returns() {
        CHECKS.sentence("isCached: BAD_INDEX");
        GradeGraph graph = Checks.built("s(1)");
        due("isCached(0, 0)", graph.isCached(0, 0), 0);
        due("isCached(0, 99)", graph.isCached(0, 99), 0);
        due("isCached(0, 100)", graph.isCached(0, 100), BAD_INDEX);
        due("isCached(0, -1)", graph.isCached(0, -1), BAD_INDEX);
        due("isCached(1, 0)", graph.isCached(1, 0), BAD_INDEX);
        for (int far : FAR) {
            due("node " + far, graph.isCached(far, 0), BAD_INDEX);
            due("frame " + far, graph.isCached(0, far), BAD_INDEX);
        }
        look(graph, 0, 99, 99);
        due("isCached(0, 99)", graph.isCached(0, 99), 1);
    }

    private static void promise17PicturesInTheCache() {
        CHECKS.sentence("0 for the pictures in the cache");
        GradeGraph graph = Checks.built("s(1)");
        due("none", graph.count(0), 0);
        look(graph, 0, 0, 0);
        due("one", graph.count(0), 1);
        graph.set(0, 0, 0);
        due("none any more", graph.count(0), 0);
        graph.setRoom(48);
        look(graph, 0, 0, 99);
        due("all that there is room for", graph.count(0), 48);
        graph.setRoom(12);
        due("twelve", graph.count(0), 12);
        graph.clear();
        due("none", graph.count(0), 0);
    }

    private static void promise17HitsAndMisses() {
        CHECKS.sentence("1 for all hits, 2 for all misses");
        GradeGraph graph = Checks.built("s(1)");
        look(graph, 0, 0, 99);
        counts("a hundred misses", graph, 16, 0, 100, 84, 0);
        look(graph, 0, 84, 99);
        counts("sixteen hits", graph, 16, 16, 100, 84, 0);
        look(graph, 0, 83, 83);
        counts("one that was dropped is a miss again", graph, 16, 16, 101, 85, 0);
        graph.set(0, 0, 1);
        look(graph, 0, 83, 83);
        counts("one that became void is a miss again", graph, 1, 16, 102, 85, 16);
    }

    private static void promise17Dropped() {
        CHECKS.sentence("3 for all pictures that were dropped because there was no room");
        GradeGraph graph = Checks.built("s(1)");
        look(graph, 0, 0, 17);
        due("by two more", graph.count(3), 2);
        graph.setRoom(13);
        due("by setRoom()", graph.count(3), 5);
        graph.set(0, 0, 5);
        due("not by a change", graph.count(3), 5);
        look(graph, 0, 0, 5);
        graph.save(0);
        graph.restore(0);
        due("not by restore()", graph.count(3), 5);
        look(graph, 0, 0, 5);
        graph.clear();
        due("not by clear()", graph.count(3), 5);
    }

    private static void promise17Void() {
        CHECKS.sentence("4 for all that became void");
        GradeGraph graph = Checks.built("i(s(1))");
        look(graph, 1, 0, 2);
        graph.set(0, 0, 5);
        due("by set()", graph.count(4), 6);
        look(graph, 1, 0, 2);
        graph.connect(1, 0, NONE);
        due("by connect()", graph.count(4), 9);
        look(graph, 1, 0, 2);
        graph.setRange(1, 1, 99);
        due("by setRange()", graph.count(4), 10);
        look(graph, 1, 0, 30);
        due("not by a lack of room", graph.count(4), 10);
        graph.clear();
        due("not by clear()", graph.count(4), 10);
    }

    private static void promise17Returns() {
        CHECKS.sentence("count: Returns this number; BAD_INDEX.");
        GradeGraph graph = new GradeGraph();
        due("count(0)", graph.count(0), 0);
        due("count(4)", graph.count(4), 0);
        due("count(-1)", graph.count(-1), BAD_INDEX);
        due("count(5)", graph.count(5), BAD_INDEX);
        for (int far : FAR) {
            due("count(" + far + ")", graph.count(far), BAD_INDEX);
        }
    }

    private static void call512() {
        CHECKS.sentence("An object is used for at most 512 calls after it has been made");
        GradeGraph graph = new GradeGraph();
        graph.addNode(SOURCE);
        for (int call = 2; call < 512; call++) {
            int frame = call % 100;
            due("call " + call, graph.value(0, frame, 0, 0, 0), 11 * frame % 256);
        }
        due("call 512", graph.count(2), 510);
    }
}
