/** The sentences under "Pictures" and "Nodes" and of promises 11 to 14 that name an edge: a test for each. */
public final class EdgePictureTest {
    private static final int BAD_INDEX = GradeGraph.BAD_INDEX, BAD_VALUE = GradeGraph.BAD_VALUE, NONE = GradeGraph.NONE;
    private static final int SOURCE = GradeGraph.SOURCE, GAIN = GradeGraph.GAIN, SHIFT = GradeGraph.SHIFT;
    private static final int INVERT = GradeGraph.INVERT, BLUR = GradeGraph.BLUR, KEY = GradeGraph.KEY, BLEND = GradeGraph.BLEND;
    private static final int[] FAR = {Integer.MIN_VALUE, -1000, -1, 1000, Integer.MAX_VALUE};
    private static final Checks CHECKS = new Checks();

    public static void main(String[] arguments) {
        columnsRowsAndChannels();
        valuesFrom0To255();
        frames();
        roundedDown();
        limited();
        black();
        outsideOfItsRange();
        pictureOfItsOwn();
        inputThatIsNone();
        sourceModulo256();
        sourceOutsideOfItsRange();
        gainAmounts();
        shiftAmounts();
        inverse();
        blurAtTheEnds();
        blurInItsRow();
        keySameInEachChannel();
        keyDistance0();
        keyGreaterThanTheSoftness();
        keyDistanceWithinTheSoftness();
        keyLowestGreaterThanHighest();
        blendMasks();
        twelveDeep();
        promise11();
        promise12Parts();
        promise12();
        promise13What();
        promise13();
        promise14Sign();
        promise14Asks();
        promise14();
        CHECKS.finish("EdgePictureTest");
    }

    private static void due(String call, long got, long want) {
        CHECKS.due(call, got, want);
    }

    /** The seed with which a source has this value in frame 0 at the first place of channel 0. */
    private static int seedOf(int value) {
        return value * 183 % 256;
    }

    /** What an expression with one source makes of a value; the source stands in the text as S. */
    private static int made(String text, int value) {
        GradeGraph graph = Checks.built(text.replace("S", "s(" + seedOf(value) + ")"));
        return graph.value(graph.nodes() - 1, 0, 0, 0, 0);
    }

    /** A node without inputs that makes a picture of one value. */
    private static GradeGraph plain(int value) {
        GradeGraph graph = new GradeGraph();
        graph.addNode(SHIFT);
        for (int channel = 0; channel < 3; channel++) {
            graph.set(0, channel, value);
        }
        return graph;
    }

    private static void columnsRowsAndChannels() {
        CHECKS.sentence("A picture has 8 columns x, 0 to 7, and 4 rows y, 0 to 3, and three channels c, 0 to 2");
        GradeGraph graph = Checks.built("s(6)");
        for (int x = 0; x < 8; x++) {
            for (int y = 0; y < 4; y++) {
                for (int channel = 0; channel < 3; channel++) {
                    String call = "value(0, 9, " + x + ", " + y + ", " + channel + ")";
                    due(call, graph.value(0, 9, x, y, channel), Checks.source(6, 9, x, y, channel));
                }
            }
        }
        due("column -1", graph.value(0, 9, -1, 1, 1), BAD_INDEX);
        due("column 8", graph.value(0, 9, 8, 1, 1), BAD_INDEX);
        due("row -1", graph.value(0, 9, 1, -1, 1), BAD_INDEX);
        due("row 4", graph.value(0, 9, 1, 4, 1), BAD_INDEX);
        due("channel -1", graph.value(0, 9, 1, 1, -1), BAD_INDEX);
        due("channel 3", graph.value(0, 9, 1, 1, 3), BAD_INDEX);
    }

    private static void valuesFrom0To255() {
        CHECKS.sentence("each value is from 0 to 255");
        String[] texts = {"s(999)", "g(s(9),64)", "t(s(9),255)", "t(s(9),-255)", "i(s(9))", "k(s(9),0,3,200,99)",
            "l(t(s(9),255),3)", "b(t(s(9),255),t(s(8),255),s(7))", "b(s(9),g(s(8),64),i(s(7)))"};
        for (String text : texts) {
            GradeGraph graph = Checks.built(text);
            for (int frame = 0; frame < 100; frame += 33) {
                for (int channel = 0; channel < 3; channel++) {
                    int least = graph.sum(graph.nodes() - 1, frame, channel, 0);
                    int greatest = graph.sum(graph.nodes() - 1, frame, channel, 1);
                    CHECKS.holds(text + " from " + least + " to " + greatest, 0 <= least && least <= greatest && greatest <= 255);
                }
            }
        }
    }

    private static void frames() {
        CHECKS.sentence("Frames are numbered from 0 to 99.");
        GradeGraph graph = Checks.built("s(6)");
        due("frame 0", graph.value(0, 0, 5, 3, 1), Checks.source(6, 0, 5, 3, 1));
        due("frame 99", graph.value(0, 99, 5, 3, 1), Checks.source(6, 99, 5, 3, 1));
        for (int frame : new int[] {Integer.MIN_VALUE, -1, 100, Integer.MAX_VALUE}) {
            due("value() of frame " + frame, graph.value(0, frame, 0, 0, 0), BAD_INDEX);
            due("scope() of frame " + frame, graph.scope(0, frame, 0, 0), BAD_INDEX);
            due("sum() of frame " + frame, graph.sum(0, frame, 0, 0), BAD_INDEX);
            due("compare() of frame " + frame, graph.compare(0, 0, frame), BAD_INDEX);
            due("isCached() of frame " + frame, graph.isCached(0, frame), BAD_INDEX);
        }
        due("the frames that there are were asked for", graph.count(2), 2);
    }

    private static void roundedDown() {
        CHECKS.sentence("Divisions are rounded down.");
        due("15 * 1 / 16", made("g(S,1)", 15), 0);
        due("16 * 1 / 16", made("g(S,1)", 16), 1);
        due("31 * 1 / 16", made("g(S,1)", 31), 1);
        due("255 * 15 / 16", made("g(S,15)", 255), 239);
        // the row begins with 101, 132, 163, 194
        due("(101 + 132) / 2", made("l(S,1)", 101), 116);
        due("(101 + 132 + 163 + 194) / 4", made("l(S,3)", 101), 147);
        due("255 - 255 * 1 / 2", made("k(S,0,101,101,1)", 100), 128);
        due("255 - 255 * 2 / 3", made("k(S,0,102,102,2)", 100), 85);
        due("255 - 255 * 2 / 4", made("k(S,0,102,102,3)", 100), 128);
        // a is 255, b is 0 and m is 254, then 1 and 0
        due("(1 * 0 + 254 * 1) / 255", made("b(s(0),i(t(S,-253)),t(S,-253))", 254), 0);
        due("(0 * 254 + 255 * 1) / 255", made("b(s(0),i(s(0)),S)", 1), 1);
    }

    private static void limited() {
        CHECKS.sentence("To limit a value means to replace it by 0 if it is less, and by 255 if it is greater.");
        due("10 - 9", made("t(S,-9)", 10), 1);
        due("10 - 10", made("t(S,-10)", 10), 0);
        due("10 - 11", made("t(S,-11)", 10), 0);
        due("0 - 255", made("t(S,-255)", 0), 0);
        due("200 + 54", made("t(S,54)", 200), 254);
        due("200 + 55", made("t(S,55)", 200), 255);
        due("200 + 56", made("t(S,56)", 200), 255);
        due("255 + 255", made("t(S,255)", 255), 255);
        due("239 * 17 / 16", made("g(S,17)", 239), 253);
        due("240 * 17 / 16", made("g(S,17)", 240), 255);
        due("241 * 17 / 16", made("g(S,17)", 241), 255);
        due("63 * 64 / 16", made("g(S,64)", 63), 252);
        due("64 * 64 / 16", made("g(S,64)", 64), 255);
        due("255 * 64 / 16", made("g(S,64)", 255), 255);
    }

    private static void black() {
        CHECKS.sentence("The black picture has only 0.");
        GradeGraph graph = new GradeGraph();
        for (int kind = SOURCE; kind <= BLEND; kind++) {
            graph.addNode(kind);
            graph.setRange(kind, 5, 5);
            for (int channel = 0; channel < 3; channel++) {
                due("the greatest value of kind " + kind, graph.sum(kind, 4, channel, 1), 0);
                due("the sum of kind " + kind, graph.sum(kind, 6, channel, 2), 0);
                due("part 0 of kind " + kind, graph.scope(kind, 4, channel, 0), 32);
            }
        }
    }

    private static void outsideOfItsRange() {
        CHECKS.sentence("For a frame outside of its range, a node's picture is that of its input 0");
        int[][] ranges = {{0, 0}, {0, 98}, {1, 99}, {10, 20}, {30, 30}, {99, 99}};
        for (int kind = GAIN; kind <= BLEND; kind++) {
            for (int[] range : ranges) {
                GradeGraph graph = changed(kind);
                GradeGraph always = changed(kind);
                graph.setRange(3, range[0], range[1]);
                for (int frame : new int[] {0, range[0] - 1, range[0], range[1], range[1] + 1, 99}) {
                    if (frame < 0 || frame > 99) {
                        continue;
                    }
                    boolean inside = range[0] <= frame && frame <= range[1];
                    String call = "kind " + kind + " from " + range[0] + " to " + range[1] + " in frame " + frame;
                    due(call, graph.value(3, frame, 5, 2, 1), always.value(inside ? 3 : 0, frame, 5, 2, 1));
                    due(call + ": the sum", graph.sum(3, frame, 2, 2), always.sum(inside ? 3 : 0, frame, 2, 2));
                    CHECKS.holds(call + ": there is a difference", always.compare(0, 3, frame) > 0);
                }
            }
        }
    }

    /** Three sources and a node of this kind, number 3, that changes the picture of source 0. */
    private static GradeGraph changed(int kind) {
        GradeGraph graph = new GradeGraph();
        for (int node = 0; node < 3; node++) {
            graph.addNode(SOURCE);
            graph.set(node, 0, 100 + 45 * node);
        }
        graph.addNode(kind);
        for (int input = 0; input < (kind == BLEND ? 3 : 1); input++) {
            graph.connect(3, input, input);
        }
        if (kind == GAIN || kind == SHIFT) {
            graph.set(3, 1, 7);
            graph.set(3, 2, 9);
        }
        return graph;
    }

    private static void pictureOfItsOwn() {
        CHECKS.sentence("it is a picture of its own all the same, and comes into the cache as such");
        GradeGraph graph = Checks.built("i(s(4))");
        graph.setRange(1, 7, 7);
        graph.value(1, 6, 0, 0, 0);
        due("its own picture", graph.isCached(1, 6), 1);
        due("its input's picture", graph.isCached(0, 6), 1);
        due("both were missed", graph.count(2), 2);
        graph.value(1, 6, 0, 0, 0);
        due("a hit of its own", graph.count(1), 1);
        due("it becomes void alone", graph.connect(1, 0, NONE), 1);
        due("its input's picture stays", graph.isCached(0, 6), 1);
        graph = Checks.built("s(4)");
        graph.setRange(0, 7, 7);
        graph.value(0, 6, 0, 0, 0);
        due("a source outside of its range", graph.isCached(0, 6), 1);
        graph = new GradeGraph();
        graph.addNode(BLUR);
        graph.setRange(0, 7, 7);
        graph.value(0, 8, 0, 0, 0);
        due("a node without input 0 outside of its range", graph.isCached(0, 8), 1);
    }

    private static void inputThatIsNone() {
        CHECKS.sentence("The picture of an input that is none is the black one.");
        int[] want = {0, 0, 0, 255, 0, 255, 0};
        GradeGraph graph = new GradeGraph();
        for (int kind = SOURCE; kind <= BLEND; kind++) {
            graph.addNode(kind);
            if (kind != SOURCE) {
                due("kind " + kind, graph.value(kind, 3, 7, 3, 2), want[kind]);
            }
        }
        graph.set(SHIFT, 2, 77);
        due("a shift by 77", graph.value(SHIFT, 3, 7, 3, 2), 77);
        graph.set(KEY, 1, 10);
        graph.set(KEY, 3, 19);
        due("a key at a distance of 10", graph.value(KEY, 3, 7, 3, 2), 128);
        // the inverse of none is 255 everywhere
        int[][] inputs = {{INVERT, NONE, NONE}, {NONE, INVERT, NONE}, {NONE, NONE, INVERT},
            {INVERT, INVERT, NONE}, {INVERT, NONE, INVERT}, {NONE, INVERT, INVERT}};
        int[] blends = {255, 0, 0, 255, 0, 255};
        for (int row = 0; row < inputs.length; row++) {
            for (int input = 0; input < 3; input++) {
                graph.connect(BLEND, input, inputs[row][input]);
            }
            due("blend " + row, graph.value(BLEND, 3, 7, 3, 2), blends[row]);
        }
    }

    private static void sourceModulo256() {
        CHECKS.sentence("(7 * seed + 31 * x + 17 * y + 11 * frame + 53 * c + x * y * frame) modulo 256");
        due("7 * 0 = 0", Checks.built("s(0)").value(0, 0, 0, 0, 0), 0);
        due("7 * 36 = 252", Checks.built("s(36)").value(0, 0, 0, 0, 0), 252);
        due("7 * 37 = 259", Checks.built("s(37)").value(0, 0, 0, 0, 0), 3);
        due("7 * 73 = 511", Checks.built("s(73)").value(0, 0, 0, 0, 0), 255);
        due("7 * 256 = 1792", Checks.built("s(256)").value(0, 0, 0, 0, 0), 0);
        due("7 * 32 + 31 = 255", Checks.built("s(32)").value(0, 0, 1, 0, 0), 255);
        due("7 * 29 + 53 = 256", Checks.built("s(29)").value(0, 0, 0, 0, 1), 0);
        due("the greatest one, 10535", Checks.built("s(999)").value(0, 99, 7, 3, 2), 39);
        due("7 * 999 = 6993", Checks.built("s(999)").value(0, 0, 0, 0, 0), 81);
        due("11 * 99 = 1089", Checks.built("s(0)").value(0, 99, 0, 0, 0), 65);
    }

    private static void sourceOutsideOfItsRange() {
        CHECKS.sentence("(Outside of its range, its picture is the black one.)");
        GradeGraph graph = Checks.built("s(5)");
        graph.setRange(0, 40, 50);
        int[] frames = {0, 39, 40, 50, 51, 99};
        for (int frame : frames) {
            boolean inside = 40 <= frame && frame <= 50;
            due("frame " + frame, graph.value(0, frame, 2, 1, 0), inside ? Checks.source(5, frame, 2, 1, 0) : 0);
            due("the sum in frame " + frame, graph.sum(0, frame, 1, 2) > 0 ? 1 : 0, inside ? 1 : 0);
        }
    }

    private static void gainAmounts() {
        CHECKS.sentence("the amount for each channel, 0 to 64, 16: the value * amount / 16, limited");
        GradeGraph graph = Checks.built("s(9)");
        graph.addNode(GAIN);
        graph.connect(1, 0, 0);
        due("at first it changes nothing", graph.compare(0, 1, 3), 0);
        int[] amounts = {0, 64, 8};
        for (int channel = 0; channel < 3; channel++) {
            due("set()", graph.set(1, channel, amounts[channel]) >= 0 ? 1 : 0, 1);
        }
        for (int place = 0; place < 32; place++) {
            int x = place % 8;
            int y = place / 8;
            due("amount 0", graph.value(1, 3, x, y, 0), 0);
            due("amount 64", graph.value(1, 3, x, y, 1), Math.min(255, 4 * Checks.source(9, 3, x, y, 1)));
            due("amount 8", graph.value(1, 3, x, y, 2), Checks.source(9, 3, x, y, 2) / 2);
        }
    }

    private static void shiftAmounts() {
        CHECKS.sentence("the amount for each channel, -255 to 255, 0: the value + amount, limited");
        GradeGraph graph = Checks.built("s(9)");
        graph.addNode(SHIFT);
        graph.connect(1, 0, 0);
        due("at first it changes nothing", graph.compare(0, 1, 3), 0);
        graph.set(1, 0, -255);
        graph.set(1, 1, 255);
        graph.set(1, 2, -1);
        for (int place = 0; place < 32; place++) {
            int x = place % 8;
            int y = place / 8;
            due("amount -255", graph.value(1, 3, x, y, 0), 0);
            due("amount 255", graph.value(1, 3, x, y, 1), 255);
            due("amount -1", graph.value(1, 3, x, y, 2), Math.max(0, Checks.source(9, 3, x, y, 2) - 1));
        }
    }

    private static void inverse() {
        CHECKS.sentence("INVERT (3): input 0; no parameters: 255 - the value.");
        for (int value : new int[] {0, 1, 127, 128, 254, 255}) {
            due("the inverse of " + value, made("i(S)", value), 255 - value);
        }
        GradeGraph graph = Checks.built("i(s(0))");
        due("it has no parameter 0", graph.set(1, 0, 0), BAD_INDEX);
    }

    private static void blurAtTheEnds() {
        CHECKS.sentence("in the columns from x - reach to x + reach, as far as there are such, divided by their number");
        for (int reach = 0; reach < 4; reach++) {
            GradeGraph graph = Checks.built("l(s(21)," + reach + ")");
            for (int place = 0; place < 96; place++) {
                int x = place % 8;
                int y = place / 8 % 4;
                int total = 0;
                int number = 0;
                for (int column = x - reach; column <= x + reach; column++) {
                    if (0 <= column && column <= 7) {
                        total += Checks.source(21, 6, column, y, place / 32);
                        number++;
                    }
                }
                String call = "reach " + reach + " at " + x + ", " + y + " in " + place / 32;
                due(call, graph.value(1, 6, x, y, place / 32), total / number);
            }
        }
    }

    private static void blurInItsRow() {
        CHECKS.sentence("the sum of the values of the same row and channel");
        // a mask that is 255 at one place alone, where the row or the channel ends
        int[][] corners = {{7, 0}, {0, 1}, {7, 1}, {0, 2}, {7, 3}, {0, 0}};
        for (int[] corner : corners) {
            int value = Checks.source(0, 0, corner[0], corner[1], 0);
            GradeGraph graph = Checks.built("l(k(s(0),0," + value + "," + value + ",0),3)");
            for (int place = 0; place < 32; place++) {
                int x = place % 8;
                int distance = Math.abs(x - corner[0]);
                int columns = Math.min(7, x + 3) - Math.max(0, x - 3) + 1;
                int want = place / 8 == corner[1] && distance <= 3 ? 255 / columns : 0;
                due("place " + place + " of " + corner[0] + ", " + corner[1], graph.value(2, 0, x, place / 8, 1), want);
            }
        }
    }

    private static void keySameInEachChannel() {
        CHECKS.sentence("In each channel it is the same: with v as the value of the picture's channel that is told");
        // at the first place the channels have 0, 53 and 106
        for (int told = 0; told < 3; told++) {
            int value = 53 * told;
            GradeGraph graph = Checks.built("k(s(0)," + told + "," + value + "," + value + ",0)");
            for (int channel = 0; channel < 3; channel++) {
                due("channel " + channel + " by channel " + told, graph.value(1, 0, 0, 0, channel), 255);
                due("another place", graph.value(1, 0, 1, 0, channel), 0);
            }
        }
    }

    private static void keyDistance0() {
        CHECKS.sentence("(0 if v is one of these): 255 if d is 0");
        due("the lowest value", made("k(S,0,100,120,0)", 100), 255);
        due("within", made("k(S,0,100,120,0)", 110), 255);
        due("the highest value", made("k(S,0,100,120,0)", 120), 255);
        due("one less", made("k(S,0,100,120,0)", 99), 0);
        due("one more", made("k(S,0,100,120,0)", 121), 0);
        due("one value alone", made("k(S,0,100,100,0)", 100), 255);
        due("from 0", made("k(S,0,0,0,0)", 0), 255);
        due("to 255", made("k(S,0,255,255,0)", 255), 255);
        due("0 as at first", made("k(S,0,0,255,0)", 0), 255);
        due("255 as at first", made("k(S,0,0,255,0)", 255), 255);
        due("whatever the softness is", made("k(S,0,100,120,99)", 120), 255);
    }

    private static void keyGreaterThanTheSoftness() {
        CHECKS.sentence("0 if d is greater than the softness");
        due("a distance of 10 below, softness 10", made("k(S,0,100,120,10)", 90), 255 - 2550 / 11);
        due("a distance of 11 below, softness 10", made("k(S,0,100,120,10)", 89), 0);
        due("a distance of 10 above, softness 10", made("k(S,0,100,120,10)", 130), 255 - 2550 / 11);
        due("a distance of 11 above, softness 10", made("k(S,0,100,120,10)", 131), 0);
        due("a distance of 1, softness 0", made("k(S,0,100,120,0)", 99), 0);
        due("a distance of 99, softness 99", made("k(S,0,100,120,99)", 1), 3);
        due("a distance of 100, softness 99", made("k(S,0,100,120,99)", 0), 0);
        due("a distance of 255, softness 99", made("k(S,0,0,0,99)", 255), 0);
    }

    private static void keyDistanceWithinTheSoftness() {
        CHECKS.sentence("and otherwise 255 - 255 * d / (softness + 1)");
        for (int distance = 1; distance <= 99; distance++) {
            int want = 255 - 255 * distance / 100;
            due("a distance of " + distance + " below", made("k(S,0,120,130,99)", 120 - distance), want);
            due("a distance of " + distance + " above", made("k(S,0,120,130,99)", 130 + distance), want);
        }
        due("a distance of 1, softness 1", made("k(S,0,120,130,1)", 119), 128);
    }

    private static void keyLowestGreaterThanHighest() {
        CHECKS.sentence("If the lowest value is greater than the highest one, it is 0 everywhere.");
        int[] values = {0, 99, 100, 101, 150, 255};
        for (int value : values) {
            due("by 1, at " + value, made("k(S,0,101,100,99)", value), 0);
            due("by 255, at " + value, made("k(S,0,255,0,99)", value), 0);
        }
        due("by 0", made("k(S,0,100,100,99)", 100), 255);
        GradeGraph graph = Checks.built("k(s(0),1,101,100,99)");
        for (int channel = 0; channel < 3; channel++) {
            due("in channel " + channel, graph.sum(1, 5, channel, 1), 0);
        }
    }

    private static void blendMasks() {
        CHECKS.sentence("(a * (255 - m) + b * m) / 255");
        int[] masks = {0, 1, 127, 128, 254, 255};
        int[] values = {0, 1, 100, 254, 255};
        for (int m : masks) {
            for (int a : values) {
                for (int b : values) {
                    String text = "b(s(" + seedOf(a) + "),s(" + seedOf(b) + "),s(" + seedOf(m) + "))";
                    int want = (a * (255 - m) + b * m) / 255;
                    due(a + " and " + b + " by " + m, Checks.built(text).value(3, 0, 0, 0, 0), want);
                }
            }
        }
        due("the mask is that of the channel", Checks.built("b(s(0),i(s(0)),s(0))").value(4, 0, 0, 0, 1), 83);
    }

    private static void twelveDeep() {
        CHECKS.sentence("Nodes make pictures, frame by frame, from those of other nodes");
        // an inverse of none, that is 255, is handed on by eleven blends
        int[][] inputs = {{-1, NONE, NONE}, {NONE, -1, -1}, {NONE, 0, -1}, {NONE, -1, 0}, {0, -1, 0}, {-1, -1, -1}};
        for (int[] turn : inputs) {
            GradeGraph graph = new GradeGraph();
            graph.addNode(INVERT);
            for (int node = 1; node < 12; node++) {
                graph.addNode(BLEND);
                for (int input = 0; input < 3; input++) {
                    graph.connect(node, input, turn[input] == -1 ? node - 1 : turn[input]);
                }
            }
            due("the last one of twelve", graph.value(11, 50, 3, 3, 2), 255);
            due("its values in part 15", graph.scope(11, 60, 0, 15), 32);
            due("its least value", graph.sum(11, 61, 1, 0), 255);
            due("its difference from the first one", graph.compare(11, 0, 62), 0);
            due("the other way", graph.compare(0, 11, 63), 0);
            graph.setRange(0, 50, 50);
            due("in another frame", graph.value(11, 51, 3, 3, 2), 0);
        }
    }

    private static void promise11() {
        CHECKS.sentence("value: Returns the value; BAD_INDEX.");
        GradeGraph graph = Checks.built("s(5)");
        due("value(0, 0, 0, 0, 0)", graph.value(0, 0, 0, 0, 0), 35);
        due("value(1, 0, 0, 0, 0)", graph.value(1, 0, 0, 0, 0), BAD_INDEX);
        for (int far : FAR) {
            due("node " + far, graph.value(far, 0, 0, 0, 0), BAD_INDEX);
            due("frame " + far, graph.value(0, far, 0, 0, 0), BAD_INDEX);
            due("column " + far, graph.value(0, 0, far, 0, 0), BAD_INDEX);
            due("row " + far, graph.value(0, 0, 0, far, 0), BAD_INDEX);
            due("channel " + far, graph.value(0, 0, 0, 0, far), BAD_INDEX);
        }
        due("without nodes", new GradeGraph().value(0, 0, 0, 0, 0), BAD_INDEX);
    }

    private static void promise12Parts() {
        CHECKS.sentence("part k has the values from 16 * k to 16 * k + 15");
        for (int part = 0; part < 16; part++) {
            for (int value : new int[] {16 * part, 16 * part + 15}) {
                GradeGraph graph = plain(value);
                for (int other = 0; other < 16; other++) {
                    due("value " + value + " in part " + other, graph.scope(0, 0, part % 3, other), other == part ? 32 : 0);
                }
            }
        }
    }

    private static void promise12() {
        CHECKS.sentence("scope: Returns how many of the 32 values of this channel are in this part; BAD_INDEX.");
        GradeGraph graph = Checks.built("k(s(0),0,0,0,0)");
        due("one value of 255", graph.scope(1, 0, 2, 15), 1);
        due("31 values of 0", graph.scope(1, 0, 2, 0), 31);
        due("no value between", graph.scope(1, 0, 2, 7), 0);
        GradeGraph three = plain(0);
        three.set(0, 1, 16);
        three.set(0, 2, 32);
        for (int channel = 0; channel < 3; channel++) {
            for (int part = 0; part < 3; part++) {
                due("part " + part + " of channel " + channel, three.scope(0, 0, channel, part), part == channel ? 32 : 0);
            }
        }
        due("part -1", graph.scope(1, 0, 0, -1), BAD_INDEX);
        due("part 16", graph.scope(1, 0, 0, 16), BAD_INDEX);
        due("channel 3", graph.scope(1, 0, 3, 0), BAD_INDEX);
        due("node 2", graph.scope(2, 0, 0, 0), BAD_INDEX);
        for (int far : FAR) {
            due("node " + far, graph.scope(far, 0, 0, 0), BAD_INDEX);
            due("frame " + far, graph.scope(0, far, 0, 0), BAD_INDEX);
            due("channel " + far, graph.scope(0, 0, far, 0), BAD_INDEX);
            due("part " + far, graph.scope(0, 0, 0, far), BAD_INDEX);
        }
    }

    private static void promise13What() {
        CHECKS.sentence("0 for the least value of this channel, 1 for the greatest one, 2 for the sum of all,"
            + " 3 for the number of different values");
        for (int value : new int[] {0, 1, 254, 255}) {
            GradeGraph graph = plain(value);
            int[] want = {value, value, 32 * value, 1};
            for (int what = 0; what < 4; what++) {
                due("sum(.., " + what + ") of " + value, graph.sum(0, 0, 2, what), want[what]);
            }
        }
        due("32 different ones", Checks.built("s(0)").sum(0, 0, 0, 3), 32);
        // a gain of 0 leaves one channel of the source
        for (int channel = 0; channel < 3; channel++) {
            GradeGraph graph = Checks.built("g(t(s(0),1),0)");
            graph.set(2, channel, 16);
            for (int other = 0; other < 3; other++) {
                String call = "channel " + other + " of " + channel;
                due(call + ": a sum", graph.sum(2, 0, other, 2) > 0 ? 1 : 0, other == channel ? 1 : 0);
                due(call + ": a least value", graph.sum(2, 0, other, 0) > 0 ? 1 : 0, other == channel ? 1 : 0);
                due(call + ": a greatest value", graph.sum(2, 0, other, 1) > 0 ? 1 : 0, other == channel ? 1 : 0);
                due(call + ": different values", graph.sum(2, 0, other, 3) > 1 ? 1 : 0, other == channel ? 1 : 0);
            }
        }
        // one value at each place in turn is unlike the others
        GradeGraph mask = Checks.built("i(k(s(0),0,0,0,0))");
        for (int place = 0; place < 32; place++) {
            int value = Checks.source(0, 0, place % 8, place / 8, 0);
            mask.set(1, 1, value);
            mask.set(1, 2, value);
            due("the least but for place " + place, mask.sum(1, 0, 1, 0), 0);
            due("the greatest at place " + place, mask.sum(1, 0, 1, 1), 255);
            due("the sum at place " + place, mask.sum(1, 0, 1, 2), 255);
            due("two values", mask.sum(1, 0, 1, 3), 2);
            due("the least at place " + place, mask.sum(2, 0, 1, 0), 0);
            due("the greatest but for place " + place, mask.sum(2, 0, 1, 1), 255);
            due("the sum but for place " + place, mask.sum(2, 0, 1, 2), 31 * 255);
            due("two values still", mask.sum(2, 0, 1, 3), 2);
        }
    }

    private static void promise13() {
        CHECKS.sentence("sum: Returns this number; BAD_INDEX; BAD_VALUE.");
        GradeGraph graph = Checks.built("s(5)");
        due("what -1", graph.sum(0, 0, 0, -1), BAD_VALUE);
        due("what 4", graph.sum(0, 0, 0, 4), BAD_VALUE);
        due("channel 3", graph.sum(0, 0, 3, 0), BAD_INDEX);
        due("node 1", graph.sum(1, 0, 0, 0), BAD_INDEX);
        for (int far : FAR) {
            due("what " + far, graph.sum(0, 0, 0, far), BAD_VALUE);
            due("node " + far + " comes ahead of what", graph.sum(far, 0, 0, 4), BAD_INDEX);
            due("frame " + far + " comes ahead of what", graph.sum(0, far, 0, 4), BAD_INDEX);
            due("channel " + far + " comes ahead of what", graph.sum(0, 0, far, 4), BAD_INDEX);
        }
        due("nothing was asked for", graph.count(1) + graph.count(2), 0);
    }

    private static void promise14Sign() {
        CHECKS.sentence("Returns the greatest difference of two values at the same place and in the same channel,"
            + " without its sign");
        GradeGraph graph = plain(0);
        graph.addNode(SHIFT);
        due("no difference", graph.compare(0, 1, 0), 0);
        for (int channel = 0; channel < 3; channel++) {
            for (int amount : new int[] {1, 254, 255}) {
                graph.set(1, channel, amount);
                due(amount + " in channel " + channel, graph.compare(0, 1, 0), amount);
                due(-amount + " in channel " + channel, graph.compare(1, 0, 0), amount);
            }
            graph.set(1, channel, 0);
        }
        // a mask that is 255 at the first place of all, then at the last one, and nothing
        String[] masks = {"k(s(0),0,0,0,0)", "k(s(0),2,118,118,0)"};
        for (int end = 0; end < 2; end++) {
            GradeGraph mask = Checks.built("g(" + masks[end] + ",0)");
            mask.addNode(GAIN);
            mask.set(2, 2 * end, 16);
            due("at the end " + end, mask.compare(2, 3, 0), 255);
            mask.set(2, 2 * end, 0);
            due("nowhere", mask.compare(2, 3, 0), 0);
        }
        // 0 against 9 in channel 0, 20 against 0 in channel 2
        graph.set(0, 2, 20);
        graph.set(1, 0, 9);
        due("the greatest one, not the last one", graph.compare(0, 1, 0), 20);
        graph.set(0, 2, 5);
        due("the greatest one, not the first one", graph.compare(0, 1, 0), 9);
    }

    private static void promise14Asks() {
        CHECKS.sentence("that of the first one is asked for first, then that of the second one (also if they are the same)");
        GradeGraph graph = Checks.built("s(5)");
        due("with itself", graph.compare(0, 0, 0), 0);
        due("a miss", graph.count(2), 1);
        due("and a hit", graph.count(1), 1);
        graph.compare(0, 0, 0);
        due("two hits more", graph.count(1), 3);
        // which one was used first shows when the room is full
        for (int first = 0; first < 2; first++) {
            GradeGraph two = Checks.built("s(1)");
            two.addNode(SOURCE);
            two.setRoom(12);
            two.compare(first, 1 - first, 0);
            for (int frame = 1; frame <= 11; frame++) {
                two.value(0, frame, 0, 0, 0);
            }
            due("the first one is dropped first", two.isCached(first, 0), 0);
            due("the second one stays", two.isCached(1 - first, 0), 1);
        }
    }

    private static void promise14() {
        CHECKS.sentence("compare: BAD_INDEX");
        GradeGraph graph = Checks.built("i(s(5))");
        due("node 2", graph.compare(2, 0, 0), BAD_INDEX);
        due("other 2", graph.compare(0, 2, 0), BAD_INDEX);
        due("other NONE", graph.compare(0, NONE, 0), BAD_INDEX);
        for (int far : FAR) {
            due("node " + far, graph.compare(far, 0, 0), BAD_INDEX);
            due("other " + far, graph.compare(0, far, 0), BAD_INDEX);
            due("frame " + far, graph.compare(0, 0, far), BAD_INDEX);
        }
        due("the first one is not asked for either", graph.count(2), 0);
    }
}
