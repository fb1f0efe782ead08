/** Runs of calls on a GradeGraph and on a Model: all answers of the two are the same. */
public final class ModelTest {
    private static final int RUNS = 6000;
    /** What comes behind this many calls is free. */
    private static final int CALLS = 512;
    /** No text that is written in a step is longer: the last bytes of these find the text full. */
    private static final int MOST_LETTERS = 84;
    private static final int MOST_CALLS_OF_A_STEP = MOST_LETTERS + 5;
    private static final int NONE = GradeGraph.NONE;

    private final Checks checks;
    private final int run;
    private final int style;
    private final GradeGraph graph = new GradeGraph();
    private final Model model = new Model();
    private long seed;
    private int calls;

    private ModelTest(Checks checks, int run) {
        this.checks = checks;
        this.run = run;
        style = run % 4;
        seed = run * 7919L + 12345L;
    }

    public static void main(String[] arguments) {
        Checks checks = new Checks();
        for (int run = 0; run < RUNS && checks.allRight(); run++) {
            ModelTest test = new ModelTest(checks, run);
            while (test.calls <= CALLS - MOST_CALLS_OF_A_STEP) {
                test.step();
            }
            while (test.calls < CALLS) {
                test.look();
            }
        }
        checks.finish("ModelTest");
    }

    /** A number from 0 to below a bound, always the same ones for a run. */
    private int pick(int bound) {
        seed = seed * 6364136223846793005L + 1442695040888963407L;
        return (int) ((seed >>> 33) % bound);
    }

    private int from(int lowest, int highest) {
        return lowest + pick(highest - lowest + 1);
    }

    private int nodeNumber() {
        int size = model.nodes();
        return pick(40) == 0 || size == 0 ? from(-2, 13) : pick(size);
    }

    private int frame() {
        if (pick(60) == 0) {
            return pick(2) == 0 ? -1 : 100;
        }
        return style == 0 ? pick(3) : style == 1 ? pick(8) : pick(100);
    }

    private int odd(int ordinary, int lowest, int highest) {
        int choice = pick(60);
        return choice == 0 ? lowest - 1 : choice == 1 ? highest + 1 : ordinary;
    }

    private void due(String call, long got, long want) {
        calls++;
        checks.due("run " + run + ": " + call, got, want);
    }

    private void step() {
        int choice = pick(100);
        if (choice < 10) {
            add();
        } else if (choice < 24) {
            connect();
        } else if (choice < 36) {
            change();
        } else if (choice < 62) {
            look();
        } else if (choice < 72) {
            tell();
        } else if (choice < 80) {
            keep();
        } else if (choice < 95 && (style == 3 || pick(20) == 0)) {
            read();
        } else if (choice < 95) {
            look();
        } else {
            due("checksum()", graph.checksum(), model.checksum());
        }
    }

    private void add() {
        if (model.nodes() < 12 || pick(4) > 0) {
            int kind = odd(pick(3) == 0 ? 6 : pick(7), 0, 6);
            due("addNode(" + kind + ")", graph.addNode(kind), model.addNode(kind));
        } else if (pick(12) == 0) {
            due("clear()", graph.clear(), model.clear());
        }
    }

    private void connect() {
        int node = nodeNumber();
        int input = odd(model.node(node, 0) == 6 ? pick(3) : 0, 0, 2);
        int from = pick(12) == 0 ? NONE : nodeNumber();
        String call = "connect(" + node + ", " + input + ", " + from + ")";
        due(call, graph.connect(node, input, from), model.connect(node, input, from));
    }

    private void change() {
        int node = nodeNumber();
        if (pick(3) == 0) {
            int from = odd(style < 2 ? pick(10) : pick(100), 0, 99);
            int to = odd(Math.min(99, from + pick(30)), from, 99);
            String call = "setRange(" + node + ", " + from + ", " + to + ")";
            due(call, graph.setRange(node, from, to), model.setRange(node, from, to));
            return;
        }
        int parameter = odd(model.node(node, 0) == 5 ? pick(4) : pick(3), 0, 3);
        int[] limits = {2, 3, 16, 64, 99, 255, 999};
        int limit = limits[pick(limits.length)];
        int value = odd(pick(4) == 0 ? -pick(limit + 1) : pick(limit + 1), -limit, limit);
        String call = "set(" + node + ", " + parameter + ", " + value + ")";
        due(call, graph.set(node, parameter, value), model.set(node, parameter, value));
    }

    private void look() {
        int node = nodeNumber();
        int frame = frame();
        int channel = odd(pick(3), 0, 2);
        switch (pick(4)) {
            case 0: {
                int x = odd(pick(8), 0, 7);
                int y = odd(pick(4), 0, 3);
                String call = "value(" + node + ", " + frame + ", " + x + ", " + y + ", " + channel + ")";
                due(call, graph.value(node, frame, x, y, channel), model.value(node, frame, x, y, channel));
                break;
            }
            case 1: {
                int part = odd(pick(16), 0, 15);
                String call = "scope(" + node + ", " + frame + ", " + channel + ", " + part + ")";
                due(call, graph.scope(node, frame, channel, part), model.scope(node, frame, channel, part));
                break;
            }
            case 2: {
                int what = odd(pick(4), 0, 3);
                String call = "sum(" + node + ", " + frame + ", " + channel + ", " + what + ")";
                due(call, graph.sum(node, frame, channel, what), model.sum(node, frame, channel, what));
                break;
            }
            default: {
                int other = nodeNumber();
                String call = "compare(" + node + ", " + other + ", " + frame + ")";
                due(call, graph.compare(node, other, frame), model.compare(node, other, frame));
                break;
            }
        }
    }

    private void tell() {
        int node = nodeNumber();
        int what = odd(pick(6), 0, 5);
        int part = odd(pick(4), 0, 3);
        int frame = frame();
        due("nodes()", graph.nodes(), model.nodes());
        due("node(" + node + ", " + what + ")", graph.node(node, what), model.node(node, what));
        due("input(" + node + ", " + part + ")", graph.input(node, part), model.input(node, part));
        due("parameter(" + node + ", " + part + ")", graph.parameter(node, part), model.parameter(node, part));
        due("isCached(" + node + ", " + frame + ")", graph.isCached(node, frame), model.isCached(node, frame));
        due("count(" + what + ")", graph.count(what), model.count(what));
    }

    private void keep() {
        int slot = odd(pick(2), 0, 1);
        int choice = pick(8);
        if (choice == 0) {
            due("restore(" + slot + ")", graph.restore(slot), model.restore(slot));
        } else if (choice < 4) {
            due("save(" + slot + ")", graph.save(slot), model.save(slot));
        } else {
            int room = odd(pick(3) == 0 ? 12 : from(12, 48), 12, 48);
            due("setRoom(" + room + ")", graph.setRoom(room), model.setRoom(room));
        }
    }

    private void read() {
        if (pick(3) == 0) {
            due("clearText()", graph.clearText(), model.clearText());
        }
        StringBuilder text = new StringBuilder();
        write(text, pick(3) == 0 ? 0 : 4 + pick(3));
        if (pick(2) == 0) {
            spoil(text);
        }
        for (int index = 0; index < text.length() && index < MOST_LETTERS; index++) {
            int letter = odd(text.charAt(index), 0, 127);
            due("append(" + letter + ")", graph.append(letter), model.append(letter));
        }
        due("faultPosition()", graph.faultPosition(), model.faultPosition());
        due("faultDepth()", graph.faultDepth(), model.faultDepth());
        due("build()", graph.build(), model.build());
        due("checksum()", graph.checksum(), model.checksum());
    }

    /** Writes an expression, now and then with a number that is not in its range. */
    private void write(StringBuilder text, int depth) {
        char letter = depth >= 6 ? (pick(2) == 0 ? 's' : 'n') : "sgtilkbnbbgt".charAt(pick(12));
        text.append(letter).append('(');
        int inputs = letter == 's' || letter == 'n' ? 0 : letter == 'b' ? 3 : 1;
        for (int input = 0; input < inputs; input++) {
            text.append(input > 0 ? "," : "");
            write(text, depth + 1);
        }
        switch (letter) {
            case 's' -> text.append(odd(pick(1000), 0, 999));
            case 'n' -> text.append(nodeNumber());
            case 'g' -> text.append(',').append(odd(pick(65), 0, 64));
            case 't' -> text.append(',').append(odd(from(-255, 255), -255, 255));
            case 'l' -> text.append(',').append(odd(pick(4), 0, 3));
            case 'k' -> text.append(',').append(odd(pick(3), 0, 2)).append(',').append(odd(pick(256), 0, 255))
                .append(',').append(odd(pick(256), 0, 255)).append(',').append(odd(pick(100), 0, 99));
            default -> { }
        }
        text.append(')');
    }

    private void spoil(StringBuilder text) {
        int place = pick(text.length());
        switch (pick(3)) {
            case 0 -> text.setLength(place);
            case 1 -> text.setCharAt(place, "sgtilkbn(),-0123456789 x".charAt(pick(24)));
            default -> text.insert(place, "sgtilkbn(),-0123456789 x".charAt(pick(24)));
        }
    }
}
