/**
 * A graph of nodes that grade pictures, frame by frame, with a cache of pictures, a text from which
 * nodes are built, and two slots for the nodes. Errors are reported by negative constants.
 */
public final class GradeGraph {
    public static final int BAD_INDEX = -1001;
    public static final int BAD_VALUE = -1002;
    public static final int NOT_POSSIBLE = -1003;
    public static final int FULL = -1004;
    public static final int NONE = -1005;
    public static final int SOURCE = 0, GAIN = 1, SHIFT = 2, INVERT = 3, BLUR = 4, KEY = 5, BLEND = 6;

    private static final int MOST_NODES = 12;
    private static final int MOST_INPUTS = 3;
    private static final int MOST_PARAMETERS = 4;
    private static final int LAST_FRAME = 99;
    private static final int COLUMNS = 8;
    private static final int ROWS = 4;
    private static final int CHANNELS = 3;
    private static final int CHANNEL_SIZE = COLUMNS * ROWS;
    private static final int PICTURE_SIZE = CHANNELS * CHANNEL_SIZE;
    private static final int GREATEST = 255;
    private static final int LEAST_ROOM = 12;
    private static final int FIRST_ROOM = 16;
    private static final int MOST_ROOM = 48;
    private static final int TEXT_ROOM = 80;
    private static final int LAST_LETTER = 127;
    private static final int SLOTS = 2;
    private static final int PARTS = 16;
    private static final int PART_WIDTH = 16;
    private static final int COUNTS = 5;
    private static final int NODE_FACTS = 6;
    private static final int CHECKED_FRAMES = 10;

    private final Graph graph = new Graph();
    private final Cache cache = new Cache();
    private final Reader reader = new Reader();
    private final Graph[] slots = new Graph[SLOTS];
    private final boolean[] saved = new boolean[SLOTS];
    private final int[] black = new int[PICTURE_SIZE];

    public GradeGraph() {
        for (int slot = 0; slot < SLOTS; slot++) {
            slots[slot] = new Graph();
        }
    }

    // ---- the graph

    public int clear() {
        int before = graph.size;
        graph.removeAll();
        cache.empty();
        return before;
    }

    public int addNode(int kind) {
        if (!isIn(kind, SOURCE, BLEND)) {
            return BAD_VALUE;
        }
        return graph.add(kind);
    }

    public int connect(int node, int input, int from) {
        if (!graph.hasInput(node, input) || (from != NONE && !graph.has(from))) {
            return BAD_INDEX;
        }
        int dependents = graph.dependents(node);
        if (from != NONE && contains(dependents, from)) {
            return NOT_POSSIBLE;
        }
        graph.link(node, input, from);
        if (input == 0) {
            return cache.makeVoid(dependents, 0, LAST_FRAME);
        }
        Node changed = graph.nodes[node];
        return cache.makeVoid(dependents, changed.first, changed.last);
    }

    public int set(int node, int parameter, int value) {
        if (!graph.hasParameter(node, parameter)) {
            return BAD_INDEX;
        }
        Node changed = graph.nodes[node];
        int kind = changed.kind;
        if (!isIn(value, Kinds.lowest(kind, parameter), Kinds.highest(kind, parameter))) {
            return BAD_VALUE;
        }
        changed.parameters[parameter] = value;
        return cache.makeVoid(graph.dependents(node), changed.first, changed.last);
    }

    public int setRange(int node, int from, int to) {
        if (!graph.has(node)) {
            return BAD_INDEX;
        }
        if (!isFrame(from) || !isIn(to, from, LAST_FRAME)) {
            return BAD_VALUE;
        }
        Node changed = graph.nodes[node];
        int oldFirst = changed.first;
        int oldLast = changed.last;
        changed.first = from;
        changed.last = to;
        return cache.makeVoidInOne(graph.dependents(node), oldFirst, oldLast, from, to);
    }

    public int nodes() {
        return graph.size;
    }

    public int node(int node, int what) {
        if (!graph.has(node)) {
            return BAD_INDEX;
        }
        switch (what) {
            case 0:
                return graph.nodes[node].kind;
            case 1:
                return graph.nodes[node].first;
            case 2:
                return graph.nodes[node].last;
            case 3:
                return Integer.bitCount(graph.dependents(node));
            case 4:
                return graph.places[node];
            case 5:
                return graph.depths[node];
            default:
                return BAD_VALUE;
        }
    }

    public int input(int node, int input) {
        if (!graph.hasInput(node, input)) {
            return BAD_INDEX;
        }
        return graph.nodes[node].inputs[input];
    }

    public int parameter(int node, int parameter) {
        if (!graph.hasParameter(node, parameter)) {
            return BAD_INDEX;
        }
        return graph.nodes[node].parameters[parameter];
    }

    // ---- pictures

    public int value(int node, int frame, int x, int y, int channel) {
        boolean isPlace = isIn(x, 0, COLUMNS - 1) && isIn(y, 0, ROWS - 1) && isChannel(channel);
        if (!graph.has(node) || !isFrame(frame) || !isPlace) {
            return BAD_INDEX;
        }
        return ask(node, frame, 0)[channel * CHANNEL_SIZE + y * COLUMNS + x];
    }

    public int scope(int node, int frame, int channel, int part) {
        boolean isPart = isIn(part, 0, PARTS - 1);
        if (!graph.has(node) || !isFrame(frame) || !isChannel(channel) || !isPart) {
            return BAD_INDEX;
        }
        return Scopes.inPart(ask(node, frame, 0), channel, part);
    }

    public int sum(int node, int frame, int channel, int what) {
        if (!graph.has(node) || !isFrame(frame) || !isChannel(channel)) {
            return BAD_INDEX;
        }
        if (!isIn(what, 0, 3)) {
            return BAD_VALUE;
        }
        int[] values = ask(node, frame, 0);
        switch (what) {
            case 0:
                return Scopes.least(values, channel);
            case 1:
                return Scopes.greatest(values, channel);
            case 2:
                return Scopes.total(values, channel);
            default:
                return Scopes.different(values, channel);
        }
    }

    public int compare(int node, int other, int frame) {
        if (!graph.has(node) || !graph.has(other) || !isFrame(frame)) {
            return BAD_INDEX;
        }
        // The first picture is still in the cache when the second one has been made: in between,
        // only pictures of the other eleven nodes can be used, and there is room for twelve.
        int[] values = ask(node, frame, 0);
        int[] others = ask(other, frame, 0);
        return Scopes.greatestDifference(values, others);
    }

    // ---- the cache

    public int setRoom(int room) {
        if (!isIn(room, LEAST_ROOM, MOST_ROOM)) {
            return BAD_VALUE;
        }
        int before = cache.room;
        cache.changeRoom(room);
        return before;
    }

    public int isCached(int node, int frame) {
        if (!graph.has(node) || !isFrame(frame)) {
            return BAD_INDEX;
        }
        return cache.find(node, frame) == null ? 0 : 1;
    }

    public int count(int what) {
        switch (what) {
            case 0:
                return cache.size;
            case 1:
                return cache.hits;
            case 2:
                return cache.misses;
            case 3:
                return cache.dropped;
            case 4:
                return cache.voided;
            default:
                return BAD_INDEX;
        }
    }

    // ---- text

    public int append(int letter) {
        if (!isIn(letter, 0, LAST_LETTER)) {
            return BAD_VALUE;
        }
        return reader.text.put(letter);
    }

    public int clearText() {
        int before = reader.text.length;
        reader.text.empty();
        return before;
    }

    public int faultPosition() {
        reader.read(graph.size);
        return reader.faulty ? reader.position : NONE;
    }

    public int faultDepth() {
        reader.read(graph.size);
        return reader.faulty ? reader.text.openAhead(reader.position) : NONE;
    }

    public int build() {
        int number = reader.read(graph.size);
        if (reader.faulty) {
            return NOT_POSSIBLE;
        }
        if (graph.size + reader.found > MOST_NODES) {
            return FULL;
        }
        graph.addAll(reader.drafts, reader.found);
        return number;
    }

    // ---- slots, checksum

    public int save(int slot) {
        if (!isIn(slot, 0, SLOTS - 1)) {
            return BAD_INDEX;
        }
        slots[slot].copyFrom(graph);
        saved[slot] = true;
        return graph.size;
    }

    public int restore(int slot) {
        if (!isIn(slot, 0, SLOTS - 1)) {
            return BAD_INDEX;
        }
        if (!saved[slot]) {
            return NOT_POSSIBLE;
        }
        graph.copyFrom(slots[slot]);
        cache.empty();
        return graph.size;
    }

    public long checksum() {
        long h = mix(127L, nodes());
        for (int node = 0; node < graph.size; node++) {
            h = mixNode(h, node);
        }
        for (int what = 0; what < COUNTS; what++) {
            h = mix(h, count(what));
        }
        for (int node = 0; node < graph.size; node++) {
            for (int frame = 0; frame < CHECKED_FRAMES; frame++) {
                h = mix(h, isCached(node, frame));
            }
        }
        return h;
    }

    private long mixNode(long start, int node) {
        long h = start;
        int kind = graph.nodes[node].kind;
        for (int what = 0; what < NODE_FACTS; what++) {
            h = mix(h, node(node, what));
        }
        for (int input = 0; input < Kinds.inputs(kind); input++) {
            h = mix(h, input(node, input));
        }
        for (int parameter = 0; parameter < Kinds.parameters(kind); parameter++) {
            h = mix(h, parameter(node, parameter));
        }
        return h;
    }

    private static long mix(long h, int value) {
        return 31L * h + value;
    }

    /**
     * Asks for the picture of a node in a frame; that of no node is the black one. No chain of
     * inputs is longer than there are nodes: what would go deeper is refused as if it were none.
     */
    private int[] ask(int number, int frame, int depth) {
        if (!graph.has(number) || depth >= MOST_NODES) {
            return black;
        }
        Picture kept = cache.find(number, frame);
        if (kept == null) {
            return make(graph.nodes[number], number, frame, depth);
        }
        cache.hit(kept);
        return kept.values;
    }

    private int[] make(Node node, int number, int frame, int depth) {
        boolean inRange = isIn(frame, node.first, node.last);
        int[] a = ask(node.inputs[0], frame, depth + 1);
        int[] b = inRange ? ask(node.inputs[1], frame, depth + 1) : black;
        int[] m = inRange ? ask(node.inputs[2], frame, depth + 1) : black;
        // To let the new picture in drops none of a, b and m: at most eleven pictures have been used
        // since the call began, and the cache has room for twelve.
        Picture made = cache.admit(number, frame);
        if (inRange) {
            Painter.paint(node, frame, a, b, m, made.values);
        } else {
            System.arraycopy(a, 0, made.values, 0, PICTURE_SIZE);
        }
        return made.values;
    }

    private static boolean isFrame(int frame) {
        return isIn(frame, 0, LAST_FRAME);
    }

    private static boolean isChannel(int channel) {
        return isIn(channel, 0, CHANNELS - 1);
    }

    private static boolean isIn(int number, int lowest, int highest) {
        return lowest <= number && number <= highest;
    }

    /** Tells if a set of nodes, kept as a bit for each, contains a node. */
    private static boolean contains(int set, int node) {
        return isIn(node, 0, MOST_NODES - 1) && (set >> node & 1) == 1;
    }

    /** What each kind of nodes has; the tables of parameters have a row of four for each kind. */
    private static final class Kinds {
        private static final int[] INPUTS = {0, 1, 1, 1, 1, 1, 3};
        private static final int[] PARAMETERS = {1, 3, 3, 0, 1, 4, 0};
        /** How many numbers stand in an expression of the text. */
        private static final int[] NUMBERS = {1, 1, 1, 0, 1, 4, 0};
        private static final int[] LOWEST = {
            0, 0, 0, 0,
            0, 0, 0, 0,
            -255, -255, -255, 0,
            0, 0, 0, 0,
            0, 0, 0, 0,
            0, 0, 0, 0,
            0, 0, 0, 0,
        };
        private static final int[] HIGHEST = {
            999, 0, 0, 0,
            64, 64, 64, 0,
            255, 255, 255, 0,
            0, 0, 0, 0,
            3, 0, 0, 0,
            2, 255, 255, 99,
            0, 0, 0, 0,
        };
        private static final int[] AT_FIRST = {
            0, 0, 0, 0,
            16, 16, 16, 0,
            0, 0, 0, 0,
            0, 0, 0, 0,
            1, 0, 0, 0,
            0, 0, 255, 0,
            0, 0, 0, 0,
        };

        static int inputs(int kind) {
            return entry(INPUTS, kind);
        }

        static int parameters(int kind) {
            return entry(PARAMETERS, kind);
        }

        static int numbers(int kind) {
            return entry(NUMBERS, kind);
        }

        static int lowest(int kind, int parameter) {
            return entry(LOWEST, kind * MOST_PARAMETERS + parameter);
        }

        static int highest(int kind, int parameter) {
            return entry(HIGHEST, kind * MOST_PARAMETERS + parameter);
        }

        static int atFirst(int kind, int parameter) {
            return entry(AT_FIRST, kind * MOST_PARAMETERS + parameter);
        }

        private static int entry(int[] table, int index) {
            return 0 <= index && index < table.length ? table[index] : 0;
        }
    }

    /** A node; the inputs that its kind does not have are none, so that nobody need ask for the kind. */
    private static final class Node {
        int kind;
        int first;
        int last;
        final int[] inputs = new int[MOST_INPUTS];
        final int[] parameters = new int[MOST_PARAMETERS];

        void reset(int newKind) {
            kind = newKind;
            first = 0;
            last = LAST_FRAME;
            for (int input = 0; input < MOST_INPUTS; input++) {
                inputs[input] = NONE;
            }
            for (int parameter = 0; parameter < MOST_PARAMETERS; parameter++) {
                parameters[parameter] = Kinds.atFirst(newKind, parameter);
            }
        }

        void copyFrom(Node other) {
            kind = other.kind;
            first = other.first;
            last = other.last;
            System.arraycopy(other.inputs, 0, inputs, 0, MOST_INPUTS);
            System.arraycopy(other.parameters, 0, parameters, 0, MOST_PARAMETERS);
        }

        /** The nodes that are its inputs, as a set of bits. */
        int inputSet() {
            int set = 0;
            for (int input = 0; input < MOST_INPUTS; input++) {
                if (inputs[input] != NONE) {
                    set |= 1 << inputs[input];
                }
            }
            return set;
        }
    }

    /** The nodes with their order, which is found anew whenever nodes or connections change. */
    private static final class Graph {
        final Node[] nodes = new Node[MOST_NODES];
        int size;
        final int[] order = new int[MOST_NODES];
        final int[] places = new int[MOST_NODES];
        final int[] depths = new int[MOST_NODES];

        Graph() {
            for (int number = 0; number < MOST_NODES; number++) {
                nodes[number] = new Node();
            }
        }

        boolean has(int number) {
            return isIn(number, 0, size - 1);
        }

        boolean hasInput(int number, int input) {
            return has(number) && isIn(input, 0, Kinds.inputs(nodes[number].kind) - 1);
        }

        boolean hasParameter(int number, int parameter) {
            return has(number) && isIn(parameter, 0, Kinds.parameters(nodes[number].kind) - 1);
        }

        void removeAll() {
            size = 0;
        }

        /** Adds a node and returns its number, or FULL. */
        int add(int kind) {
            if (size >= MOST_NODES) {
                return FULL;
            }
            int number = size;
            nodes[number].reset(kind);
            size++;
            arrange();
            return number;
        }

        void link(int number, int input, int from) {
            if (hasInput(number, input)) {
                nodes[number].inputs[input] = from;
                arrange();
            }
        }

        void copyFrom(Graph other) {
            size = 0;
            addAll(other.nodes, other.size);
        }

        /** Adds copies of the first nodes of a row, as far as there is room. */
        void addAll(Node[] others, int count) {
            for (int index = 0; index < count && index < others.length && size < MOST_NODES; index++) {
                nodes[size].copyFrom(others[index]);
                size++;
            }
            arrange();
        }

        /** The nodes that depend on a node, itself with them, as a set of bits. */
        int dependents(int number) {
            int found = 1 << number;
            // In the order each node stands behind its inputs, so that one way through is enough.
            for (int place = 0; place < size; place++) {
                int next = order[place];
                if ((nodes[next].inputSet() & found) != 0) {
                    found |= 1 << next;
                }
            }
            return found;
        }

        private void arrange() {
            int placed = 0;
            for (int place = 0; place < size; place++) {
                int next = firstReady(placed);
                order[place] = next;
                places[next] = place;
                depths[next] = depthBehindInputs(nodes[next]);
                placed |= 1 << next;
            }
        }

        /** The lowest number that is not placed and whose inputs all are; there is always one. */
        private int firstReady(int placed) {
            for (int number = 0; number < size; number++) {
                boolean isReady = (nodes[number].inputSet() & ~placed) == 0;
                if (isReady && !contains(placed, number)) {
                    return number;
                }
            }
            return 0;
        }

        private int depthBehindInputs(Node node) {
            int depth = 0;
            for (int input = 0; input < MOST_INPUTS; input++) {
                int from = node.inputs[input];
                if (has(from)) {
                    depth = Math.max(depth, depths[from] + 1);
                }
            }
            return depth;
        }
    }

    /** A picture in the cache, its values by channel, then by row, then by column. */
    private static final class Picture {
        int node;
        int frame;
        int lastUse;
        final int[] values = new int[PICTURE_SIZE];
    }

    /** The pictures that are kept: the first ones of a row that is used again and again. */
    private static final class Cache {
        private final Picture[] pictures = new Picture[MOST_ROOM];
        private int uses;
        int size;
        int room = FIRST_ROOM;
        int hits;
        int misses;
        int dropped;
        int voided;

        Cache() {
            for (int index = 0; index < MOST_ROOM; index++) {
                pictures[index] = new Picture();
            }
        }

        void empty() {
            size = 0;
        }

        /** The picture, or null if it is not kept; to find it is not to use it. */
        Picture find(int node, int frame) {
            for (int index = 0; index < size; index++) {
                Picture picture = pictures[index];
                if (picture.node == node && picture.frame == frame) {
                    return picture;
                }
            }
            return null;
        }

        void hit(Picture picture) {
            hits++;
            touch(picture);
        }

        /** Lets in the picture of a miss, whose values are still to be made. */
        Picture admit(int node, int frame) {
            misses++;
            if (size >= room) {
                dropOldest();
            }
            Picture picture = pictures[size];
            size++;
            picture.node = node;
            picture.frame = frame;
            touch(picture);
            return picture;
        }

        void changeRoom(int newRoom) {
            room = newRoom;
            for (int over = size - newRoom; over > 0; over--) {
                dropOldest();
            }
        }

        /** Drops the pictures of these nodes in the frames of a range, and tells how many. */
        int makeVoid(int nodes, int first, int last) {
            return makeVoidInOne(nodes, first, last, 1, 0);
        }

        /** The same for the frames that are in just one of two ranges. */
        int makeVoidInOne(int nodes, int first, int last, int otherFirst, int otherLast) {
            int before = size;
            // From the end, for a removal puts the last picture into the gap.
            for (int index = size - 1; index >= 0; index--) {
                Picture picture = pictures[index];
                boolean inFirst = isIn(picture.frame, first, last);
                boolean inOther = isIn(picture.frame, otherFirst, otherLast);
                if (inFirst != inOther && contains(nodes, picture.node)) {
                    remove(index);
                }
            }
            voided += before - size;
            return before - size;
        }

        private void touch(Picture picture) {
            uses++;
            picture.lastUse = uses;
        }

        private void dropOldest() {
            int oldest = 0;
            for (int index = 1; index < size; index++) {
                if (pictures[index].lastUse < pictures[oldest].lastUse) {
                    oldest = index;
                }
            }
            remove(oldest);
            dropped++;
        }

        private void remove(int index) {
            if (isIn(index, 0, size - 1)) {
                size--;
                Picture removed = pictures[index];
                pictures[index] = pictures[size];
                pictures[size] = removed;
            }
        }
    }

    /** Makes the pictures of nodes in their ranges. */
    private static final class Painter {
        static void paint(Node node, int frame, int[] a, int[] b, int[] m, int[] out) {
            switch (node.kind) {
                case SOURCE:
                    paintSource(node.parameters[0], frame, out);
                    break;
                case GAIN:
                case SHIFT:
                    paintAmounts(node, a, out);
                    break;
                case INVERT:
                    paintInverse(a, out);
                    break;
                case BLUR:
                    paintBlur(node.parameters[0], a, out);
                    break;
                case KEY:
                    paintKey(node.parameters, a, out);
                    break;
                default:
                    paintBlend(a, b, m, out);
                    break;
            }
        }

        private static void paintSource(int seed, int frame, int[] out) {
            for (int index = 0; index < PICTURE_SIZE; index++) {
                int x = index % COLUMNS;
                int y = index / COLUMNS % ROWS;
                int channel = index / CHANNEL_SIZE;
                int value = 7 * seed + 31 * x + 17 * y + 11 * frame + 53 * channel + x * y * frame;
                out[index] = value % 256;
            }
        }

        private static void paintAmounts(Node node, int[] a, int[] out) {
            for (int index = 0; index < PICTURE_SIZE; index++) {
                int amount = node.parameters[index / CHANNEL_SIZE];
                int value = node.kind == GAIN ? a[index] * amount / 16 : a[index] + amount;
                out[index] = Math.max(0, Math.min(GREATEST, value));
            }
        }

        private static void paintInverse(int[] a, int[] out) {
            for (int index = 0; index < PICTURE_SIZE; index++) {
                out[index] = GREATEST - a[index];
            }
        }

        private static void paintBlur(int reach, int[] a, int[] out) {
            for (int index = 0; index < PICTURE_SIZE; index++) {
                int x = index % COLUMNS;
                int left = Math.max(-reach, -x);
                int right = Math.min(reach, COLUMNS - 1 - x);
                int total = 0;
                int number = 0;
                for (int step = left; step <= right; step++) {
                    total += a[index + step];
                    number++;
                }
                out[index] = number == 0 ? 0 : total / number;
            }
        }

        private static void paintKey(int[] parameters, int[] a, int[] out) {
            int start = parameters[0] * CHANNEL_SIZE;
            for (int index = 0; index < CHANNEL_SIZE; index++) {
                int mask = mask(a[start + index], parameters[1], parameters[2], parameters[3]);
                for (int channel = 0; channel < CHANNELS; channel++) {
                    out[channel * CHANNEL_SIZE + index] = mask;
                }
            }
        }

        private static int mask(int value, int lowest, int highest, int softness) {
            if (lowest > highest) {
                return 0;
            }
            int distance = Math.max(0, Math.max(lowest - value, value - highest));
            // Behind this test the softness is not negative, so that the divisor is at least 1.
            if (distance > softness) {
                return 0;
            }
            return GREATEST - GREATEST * distance / (softness + 1);
        }

        private static void paintBlend(int[] a, int[] b, int[] m, int[] out) {
            for (int index = 0; index < PICTURE_SIZE; index++) {
                int mask = m[index];
                out[index] = (a[index] * (GREATEST - mask) + b[index] * mask) / GREATEST;
            }
        }
    }

    /** Counts values of pictures. */
    private static final class Scopes {
        static int inPart(int[] values, int channel, int part) {
            int start = channel * CHANNEL_SIZE;
            int found = 0;
            for (int index = 0; index < CHANNEL_SIZE; index++) {
                if (values[start + index] / PART_WIDTH == part) {
                    found++;
                }
            }
            return found;
        }

        static int least(int[] values, int channel) {
            int start = channel * CHANNEL_SIZE;
            int least = GREATEST;
            for (int index = 0; index < CHANNEL_SIZE; index++) {
                least = Math.min(least, values[start + index]);
            }
            return least;
        }

        static int greatest(int[] values, int channel) {
            int start = channel * CHANNEL_SIZE;
            int greatest = 0;
            for (int index = 0; index < CHANNEL_SIZE; index++) {
                greatest = Math.max(greatest, values[start + index]);
            }
            return greatest;
        }

        static int total(int[] values, int channel) {
            int start = channel * CHANNEL_SIZE;
            int total = 0;
            for (int index = 0; index < CHANNEL_SIZE; index++) {
                total += values[start + index];
            }
            return total;
        }

        static int different(int[] values, int channel) {
            int start = channel * CHANNEL_SIZE;
            int different = 0;
            for (int index = start; index < start + CHANNEL_SIZE; index++) {
                if (!standsBefore(values, start, index)) {
                    different++;
                }
            }
            return different;
        }

        private static boolean standsBefore(int[] values, int start, int end) {
            for (int index = start; index < end; index++) {
                if (values[index] == values[end]) {
                    return true;
                }
            }
            return false;
        }

        static int greatestDifference(int[] values, int[] others) {
            int greatest = 0;
            for (int index = 0; index < PICTURE_SIZE; index++) {
                greatest = Math.max(greatest, Math.abs(values[index] - others[index]));
            }
            return greatest;
        }
    }

    /** The bytes of the text. */
    private static final class Text {
        private static final int END = -1;
        private final byte[] bytes = new byte[TEXT_ROOM];
        int length;

        /** Adds a byte and returns the length then, or FULL. */
        int put(int letter) {
            if (length >= TEXT_ROOM) {
                return FULL;
            }
            bytes[length] = (byte) letter;
            length++;
            return length;
        }

        void empty() {
            length = 0;
        }

        /** The byte at a position, or END behind the last one. */
        int at(int position) {
            return isIn(position, 0, length - 1) ? bytes[position] : END;
        }

        /** The number of parentheses that are open ahead of a position. */
        int openAhead(int position) {
            int open = 0;
            for (int index = 0; index < position; index++) {
                if (at(index) == '(') {
                    open++;
                } else if (at(index) == ')') {
                    open--;
                }
            }
            return open;
        }
    }

    /**
     * Reads the text from the left to the right. At the first fault it stays where it is: all that
     * would be read behind it is passed over.
     */
    private static final class Reader {
        /** The letter of each kind, at the kind's number, and then that of a node that there is. */
        private static final String LETTERS = "sgtilkbn";
        private static final int REFERENCE = 7;
        private static final int DEEPEST = 6;
        private static final int MOST_DIGITS = 3;

        final Text text = new Text();
        private final int[] numbers = new int[MOST_PARAMETERS];
        /** The nodes of the text, as far as there could be room for them. */
        final Node[] drafts = new Node[MOST_NODES];
        /** The number of the nodes of the text, also of those that are no drafts. */
        int found;
        /** The number of the nodes that there are already. */
        private int known;
        int position;
        boolean faulty;

        Reader() {
            for (int index = 0; index < MOST_NODES; index++) {
                drafts[index] = new Node();
            }
        }

        /** Reads the whole text; returns the number that the node of its expression is to have. */
        int read(int nodes) {
            known = nodes;
            found = 0;
            position = 0;
            faulty = false;
            int number = expression(0);
            if (position < text.length) {
                faulty = true;
            }
            return number;
        }

        private int expression(int depth) {
            int kind = kindHere();
            if (faulty || kind == NONE || depth >= DEEPEST) {
                faulty = true;
                return NONE;
            }
            position++;
            expect('(');
            int number = kind == REFERENCE ? readNumber(0, known - 1) : newNode(kind, depth + 1);
            expect(')');
            return number;
        }

        private int nextExpression(int depth) {
            expect(',');
            return expression(depth);
        }

        private int kindHere() {
            int letter = text.at(position);
            int kind = letter < 0 ? -1 : LETTERS.indexOf((char) letter);
            return kind < 0 ? NONE : kind;
        }

        private int newNode(int kind, int depth) {
            int inputs = Kinds.inputs(kind);
            int first = inputs > 0 ? expression(depth) : NONE;
            int second = inputs > 1 ? nextExpression(depth) : NONE;
            int third = inputs > 2 ? nextExpression(depth) : NONE;
            // The numbers stand behind all inner expressions, so that one row is enough for all.
            for (int index = 0; index < Kinds.numbers(kind); index++) {
                if (inputs + index > 0) {
                    expect(',');
                }
                numbers[index] = readNumber(Kinds.lowest(kind, index), Kinds.highest(kind, index));
            }
            int number = known + found;
            if (found < MOST_NODES) {
                fill(drafts[found], kind, first, second, third);
            }
            found++;
            return number;
        }

        private void fill(Node draft, int kind, int first, int second, int third) {
            draft.reset(kind);
            draft.inputs[0] = first;
            draft.inputs[1] = second;
            draft.inputs[2] = third;
            for (int index = 0; index < Kinds.parameters(kind); index++) {
                // The one amount of a GAIN or a SHIFT stands for all channels.
                int source = index < Kinds.numbers(kind) ? index : 0;
                draft.parameters[index] = numbers[source];
            }
        }

        private int readNumber(int lowest, int highest) {
            if (faulty) {
                return 0;
            }
            boolean negative = lowest < 0 && text.at(position) == '-';
            if (negative) {
                position++;
            }
            int start = position;
            int value = readDigits();
            if (position == start) {
                faulty = true;
            } else if (value > highest || (negative && value == 0)) {
                position = start;
                faulty = true;
            }
            return negative ? -value : value;
        }

        /** Reads the digits that stand here: three at most, and a 0 that comes first alone. */
        private int readDigits() {
            int value = 0;
            for (int count = 0; count < MOST_DIGITS; count++) {
                int letter = text.at(position);
                boolean isBehindZero = count > 0 && value == 0;
                if (!isIn(letter, '0', '9') || isBehindZero) {
                    break;
                }
                value = value * 10 + letter - '0';
                position++;
            }
            return value;
        }

        private void expect(int letter) {
            if (!faulty && text.at(position) == letter) {
                position++;
            } else {
                faulty = true;
            }
        }
    }
}
