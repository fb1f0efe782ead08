import java.util.Arrays;
import java.util.IntSummaryStatistics;

/** Promises 11 to 14: the values of pictures, and what is counted of them. */
public final class PictureTest {
    private static final int BAD_INDEX = GradeGraph.BAD_INDEX, BAD_VALUE = GradeGraph.BAD_VALUE, NONE = GradeGraph.NONE;
    private static final Checks CHECKS = new Checks();

    public static void main(String[] arguments) {
        promise11Source();
        promise11Gain();
        promise11Shift();
        promise11Invert();
        promise11Blur();
        promise11Key();
        promise11KeyChannels();
        promise11Blend();
        promise11OutsideOfRange();
        promise11Errors();
        promise12Scope();
        promise13Sum();
        promise13SumOfEachChannel();
        promise14Compare();
        promise14CompareAtOnePlace();
        CHECKS.finish("PictureTest");
    }

    private static void due(String call, long got, long want) {
        CHECKS.due(call, got, want);
    }

    private static void promise11Source() {
        GradeGraph graph = Checks.built("s(999)");
        due("11: value(0, 99, 7, 3, 2)", graph.value(0, 99, 7, 3, 2), 39);
        due("11: value(0, 0, 0, 0, 0)", graph.value(0, 0, 0, 0, 0), 81);
        graph.set(0, 0, 5);
        due("11: value(0, 3, 2, 1, 2)", graph.value(0, 3, 2, 1, 2), 3);
        for (int place = 0; place < 96; place++) {
            int x = place % 8;
            int y = place / 8 % 4;
            int channel = place / 32;
            due("11: source " + place, graph.value(0, 42, x, y, channel), Checks.source(5, 42, x, y, channel));
        }
    }

    private static void promise11Gain() {
        GradeGraph graph = Checks.built("g(s(0),16)");
        due("11: gain 16", graph.value(1, 0, 3, 1, 1), 163);
        graph.set(1, 0, 64);
        graph.set(1, 1, 7);
        graph.set(1, 2, 0);
        due("11: gain 64 of 31", graph.value(1, 0, 1, 0, 0), 124);
        due("11: gain 64 of 62", graph.value(1, 0, 2, 0, 0), 248);
        due("11: gain 64 of 65", graph.value(1, 0, 1, 2, 0), 255);
        due("11: gain 7 of 53", graph.value(1, 0, 0, 0, 1), 23);
        due("11: gain 0", graph.value(1, 0, 0, 0, 2), 0);
        due("11: gain of none", Checks.built("s(0)").addNode(GradeGraph.GAIN), 1);
        graph.connect(1, 0, NONE);
        due("11: gain of the black picture", graph.value(1, 0, 1, 0, 0), 0);
    }

    private static void promise11Shift() {
        GradeGraph graph = Checks.built("t(s(0),-40)");
        due("11: shift -40 of 31", graph.value(1, 0, 1, 0, 0), 0);
        due("11: shift -40 of 62", graph.value(1, 0, 2, 0, 0), 22);
        graph.set(1, 1, 255);
        graph.set(1, 2, 149);
        due("11: shift 255 of 53", graph.value(1, 0, 0, 0, 1), 255);
        due("11: shift 149 of 106", graph.value(1, 0, 0, 0, 2), 255);
        graph.set(1, 2, 148);
        due("11: shift 148 of 106", graph.value(1, 0, 0, 0, 2), 254);
        graph.connect(1, 0, NONE);
        due("11: shift of the black picture", graph.value(1, 0, 0, 0, 2), 148);
        due("11: shift back of the black picture", graph.value(1, 0, 0, 0, 0), 0);
    }

    private static void promise11Invert() {
        GradeGraph graph = Checks.built("i(s(0))");
        due("11: invert 0", graph.value(1, 0, 0, 0, 0), 255);
        due("11: invert 31", graph.value(1, 0, 1, 0, 0), 224);
        due("11: invert 123", graph.value(1, 0, 0, 1, 2), 132);
        graph.connect(1, 0, NONE);
        due("11: invert the black picture", graph.value(1, 0, 1, 0, 0), 255);
    }

    private static void promise11Blur() {
        // the row is 0, 31, 62, 93, 124, 155, 186, 217
        GradeGraph graph = Checks.built("l(s(0),0)");
        due("11: reach 0", graph.value(1, 0, 3, 0, 0), 93);
        graph.set(1, 0, 1);
        due("11: reach 1 at the left", graph.value(1, 0, 0, 0, 0), 15);
        due("11: reach 1 within", graph.value(1, 0, 3, 0, 0), 93);
        due("11: reach 1 at the right", graph.value(1, 0, 7, 0, 0), 201);
        graph.set(1, 0, 2);
        due("11: reach 2 at the left", graph.value(1, 0, 1, 0, 0), 46);
        due("11: reach 2 near the right", graph.value(1, 0, 6, 0, 0), 170);
        graph.set(1, 0, 3);
        due("11: reach 3 within", graph.value(1, 0, 4, 0, 0), 124);
        due("11: reach 3 at the right", graph.value(1, 0, 7, 0, 0), 170);
        due("11: reach 3 at the left", graph.value(1, 0, 0, 0, 0), 46);
        // the last row of channel 2 is 157, 188, 219, 250, 25, 56, 87, 118
        due("11: reach 3 over a jump", graph.value(1, 0, 4, 3, 2), 134);
        due("11: rows are apart", graph.value(1, 0, 0, 3, 2), 203);
        due("11: to the right end", graph.value(1, 0, 7, 3, 2), 71);
    }

    private static void promise11Key() {
        // the row is 0, 31, 62, 93, 124, 155, 186, 217
        GradeGraph graph = Checks.built("k(s(0),0,62,124,0)");
        int[] hard = {0, 0, 255, 255, 255, 0, 0, 0};
        row("11: hard key", graph, hard);
        graph.set(1, 3, 61);
        // 62 is too far, 31 gives 255 - 7905 / 62
        int[] soft = {0, 128, 255, 255, 255, 128, 0, 0};
        row("11: softness 61", graph, soft);
        graph.set(1, 3, 62);
        // 62 gives 255 - 15810 / 63, 31 gives 255 - 7905 / 63
        int[] softer = {5, 130, 255, 255, 255, 130, 5, 0};
        row("11: softness 62", graph, softer);
        graph.set(1, 3, 99);
        graph.set(1, 1, 125);
        row("11: the lowest above the highest", graph, new int[8]);
        graph.set(1, 1, 124);
        // 93 gives 255 - 23715 / 100, 62 gives 255 - 15810 / 100, 31 gives 255 - 7905 / 100
        int[] one = {0, 18, 97, 176, 255, 176, 97, 18};
        row("11: one value", graph, one);
    }

    private static void row(String what, GradeGraph graph, int[] want) {
        for (int x = 0; x < 8; x++) {
            for (int channel = 0; channel < 3; channel++) {
                due(what + " at " + x + " in " + channel, graph.value(1, 0, x, 0, channel), want[x]);
            }
        }
    }

    private static void promise11KeyChannels() {
        GradeGraph graph = Checks.built("k(s(0),2,106,106,0)");
        due("11: channel 2 of place 0", graph.value(1, 0, 0, 0, 0), 255);
        due("11: channel 2 of place 1", graph.value(1, 0, 1, 0, 0), 0);
        graph.set(1, 0, 1);
        due("11: channel 1 of place 0", graph.value(1, 0, 0, 0, 2), 0);
        graph.connect(1, 0, NONE);
        due("11: the black picture", graph.value(1, 0, 0, 0, 2), 0);
        graph.set(1, 1, 0);
        due("11: the black picture is in the range", graph.value(1, 0, 0, 0, 2), 255);
    }

    private static void promise11Blend() {
        GradeGraph graph = Checks.built("i(s(0))");
        graph.addNode(GradeGraph.BLEND);
        due("11: without inputs", graph.value(2, 0, 2, 0, 0), 0);
        graph.connect(2, 0, 0);
        graph.connect(2, 1, 1);
        due("11: without a mask it is input 0", graph.value(2, 0, 2, 0, 0), 62);
        graph.connect(2, 2, 0);
        // at place 2: 62, 193 and 62: (62 * 193 + 193 * 62) / 255
        due("11: blend at place 2", graph.value(2, 0, 2, 0, 0), 93);
        // in channel 1 at place 1: 84, 171 and 84: (84 * 171 + 171 * 84) / 255
        due("11: blend in channel 1", graph.value(2, 0, 1, 0, 1), 112);
        graph.connect(2, 2, 1);
        graph.connect(2, 0, NONE);
        // at place 2: 0, 193 and 193
        due("11: without input 0", graph.value(2, 0, 2, 0, 0), 146);
        due("11: at place 0 it is input 1", graph.value(2, 0, 0, 0, 0), 255);
        graph.connect(2, 0, 0);
        graph.connect(2, 1, NONE);
        // at place 2: 62, 0 and 193: 62 * 62 / 255
        due("11: without input 1", graph.value(2, 0, 2, 0, 0), 15);
        due("11: at place 0 it is input 1", graph.value(2, 0, 0, 0, 0), 0);
    }

    private static void promise11OutsideOfRange() {
        GradeGraph graph = Checks.built("i(s(1))");
        graph.setRange(1, 10, 20);
        due("11: ahead of the range", graph.value(1, 9, 3, 2, 1), Checks.source(1, 9, 3, 2, 1));
        due("11: at its start", graph.value(1, 10, 3, 2, 1), 255 - Checks.source(1, 10, 3, 2, 1));
        due("11: at its end", graph.value(1, 20, 3, 2, 1), 255 - Checks.source(1, 20, 3, 2, 1));
        due("11: behind the range", graph.value(1, 21, 3, 2, 1), Checks.source(1, 21, 3, 2, 1));
        graph.setRange(0, 15, 15);
        due("11: a source in its range", graph.value(0, 15, 3, 2, 1), Checks.source(1, 15, 3, 2, 1));
        due("11: a source ahead of its range", graph.value(0, 14, 3, 2, 1), 0);
        due("11: a source behind its range", graph.value(0, 16, 3, 2, 1), 0);
        due("11: the inverse of black", graph.value(1, 16, 3, 2, 1), 255);
        graph.connect(1, 0, NONE);
        due("11: without input 0 outside", graph.value(1, 9, 3, 2, 1), 0);
        graph = Checks.built("b(s(1),s(2),s(3))");
        graph.setRange(3, 0, 0);
        due("11: a blend outside", graph.value(3, 1, 4, 1, 2), Checks.source(1, 1, 4, 1, 2));
    }

    private static void promise11Errors() {
        GradeGraph graph = Checks.built("s(1)");
        due("11: value(1, 0, 0, 0, 0)", graph.value(1, 0, 0, 0, 0), BAD_INDEX);
        due("11: value(-1, 0, 0, 0, 0)", graph.value(-1, 0, 0, 0, 0), BAD_INDEX);
        due("11: value(0, -1, 0, 0, 0)", graph.value(0, -1, 0, 0, 0), BAD_INDEX);
        due("11: value(0, 100, 0, 0, 0)", graph.value(0, 100, 0, 0, 0), BAD_INDEX);
        due("11: value(0, 0, -1, 0, 0)", graph.value(0, 0, -1, 0, 0), BAD_INDEX);
        due("11: value(0, 0, 8, 0, 0)", graph.value(0, 0, 8, 0, 0), BAD_INDEX);
        due("11: value(0, 0, 0, -1, 0)", graph.value(0, 0, 0, -1, 0), BAD_INDEX);
        due("11: value(0, 0, 0, 4, 0)", graph.value(0, 0, 0, 4, 0), BAD_INDEX);
        due("11: value(0, 0, 0, 0, -1)", graph.value(0, 0, 0, 0, -1), BAD_INDEX);
        due("11: value(0, 0, 0, 0, 3)", graph.value(0, 0, 0, 0, 3), BAD_INDEX);
        due("11: nothing was asked for", graph.count(2), 0);
        due("11: the last place", graph.value(0, 99, 7, 3, 2), Checks.source(1, 99, 7, 3, 2));
        due("11: it was asked for", graph.count(2), 1);
    }

    private static void promise12Scope() {
        GradeGraph graph = Checks.built("s(77)");
        for (int channel = 0; channel < 3; channel++) {
            int[] want = new int[16];
            for (int place = 0; place < 32; place++) {
                want[Checks.source(77, 8, place % 8, place / 8, channel) / 16]++;
            }
            for (int part = 0; part < 16; part++) {
                String call = "12: scope(0, 8, " + channel + ", " + part + ")";
                due(call, graph.scope(0, 8, channel, part), want[part]);
            }
        }
        due("12: each call asks", graph.count(1) + graph.count(2), 48);
        due("12: scope(1, 0, 0, 0)", graph.scope(1, 0, 0, 0), BAD_INDEX);
        due("12: scope(-1, 0, 0, 0)", graph.scope(-1, 0, 0, 0), BAD_INDEX);
        due("12: scope(0, 100, 0, 0)", graph.scope(0, 100, 0, 0), BAD_INDEX);
        due("12: scope(0, -1, 0, 0)", graph.scope(0, -1, 0, 0), BAD_INDEX);
        due("12: scope(0, 0, 3, 0)", graph.scope(0, 0, 3, 0), BAD_INDEX);
        due("12: scope(0, 0, -1, 0)", graph.scope(0, 0, -1, 0), BAD_INDEX);
        due("12: scope(0, 0, 0, 16)", graph.scope(0, 0, 0, 16), BAD_INDEX);
        due("12: scope(0, 0, 0, -1)", graph.scope(0, 0, 0, -1), BAD_INDEX);
        due("12: errors do not ask", graph.count(1) + graph.count(2), 48);
        graph = new GradeGraph();
        graph.addNode(GradeGraph.INVERT);
        due("12: all values are 255", graph.scope(0, 0, 2, 15), 32);
    }

    private static void promise13Sum() {
        GradeGraph graph = Checks.built("t(s(0),-200)");
        // in frame 0, channel 0 has 203, 206, 217, 220, 234, 237 and 251 above 200
        due("13: the least of the source", graph.sum(0, 0, 0, 0), 0);
        due("13: the greatest of the source", graph.sum(0, 0, 0, 1), 251);
        due("13: the sum of the source", graph.sum(0, 0, 0, 2), 4032);
        due("13: the different ones of the source", graph.sum(0, 0, 0, 3), 32);
        due("13: the least", graph.sum(1, 0, 0, 0), 0);
        due("13: the greatest", graph.sum(1, 0, 0, 1), 51);
        due("13: the sum", graph.sum(1, 0, 0, 2), 3 + 6 + 17 + 20 + 34 + 37 + 51);
        due("13: the different ones", graph.sum(1, 0, 0, 3), 8);
        due("13: another channel", graph.sum(1, 0, 2, 1), 50);
        graph.addNode(GradeGraph.INVERT);
        due("13: the least of 255", graph.sum(2, 5, 1, 0), 255);
        due("13: the greatest of 255", graph.sum(2, 5, 1, 1), 255);
        due("13: the sum of 255", graph.sum(2, 5, 1, 2), 8160);
        due("13: one value", graph.sum(2, 5, 1, 3), 1);
        graph.setRange(2, 0, 4);
        for (int what = 0; what < 4; what++) {
            due("13: the black picture", graph.sum(2, 5, 1, what), what == 3 ? 1 : 0);
        }
        int asked = graph.count(1) + graph.count(2);
        due("13: sum(3, 0, 0, 0)", graph.sum(3, 0, 0, 0), BAD_INDEX);
        due("13: sum(-1, 0, 0, 9)", graph.sum(-1, 0, 0, 9), BAD_INDEX);
        due("13: sum(0, 100, 0, 9)", graph.sum(0, 100, 0, 9), BAD_INDEX);
        due("13: sum(0, -1, 0, 9)", graph.sum(0, -1, 0, 9), BAD_INDEX);
        due("13: sum(0, 0, 3, 9)", graph.sum(0, 0, 3, 9), BAD_INDEX);
        due("13: sum(0, 0, -1, 9)", graph.sum(0, 0, -1, 9), BAD_INDEX);
        due("13: sum(0, 0, 0, 4)", graph.sum(0, 0, 0, 4), BAD_VALUE);
        due("13: sum(0, 0, 0, -1)", graph.sum(0, 0, 0, -1), BAD_VALUE);
        due("13: errors do not ask", graph.count(1) + graph.count(2), asked);
    }

    private static void promise13SumOfEachChannel() {
        for (int seed = 0; seed < 40; seed++) {
            GradeGraph graph = Checks.built("i(s(" + seed + "))");
            for (int channel = 0; channel < 3; channel++) {
                int frame = 97 * seed % 100;
                int[] values = new int[32];
                for (int place = 0; place < 32; place++) {
                    values[place] = Checks.source(seed, frame, place % 8, place / 8, channel);
                }
                IntSummaryStatistics due = Arrays.stream(values).summaryStatistics();
                due("13: the least", graph.sum(0, frame, channel, 0), due.getMin());
                due("13: the greatest", graph.sum(0, frame, channel, 1), due.getMax());
                due("13: the sum", graph.sum(0, frame, channel, 2), due.getSum());
                due("13: the different ones", graph.sum(0, frame, channel, 3), Arrays.stream(values).distinct().count());
                due("13: the inverse's least", graph.sum(1, frame, channel, 0), 255 - due.getMax());
                due("13: the inverse's greatest", graph.sum(1, frame, channel, 1), 255 - due.getMin());
                due("13: the inverse's sum", graph.sum(1, frame, channel, 2), 8160 - due.getSum());
            }
        }
    }

    private static void promise14CompareAtOnePlace() {
        // the mask is 255 at one place, and the gain leaves one channel of it
        GradeGraph graph = Checks.built("g(k(s(0),0,0,0,0),0)");
        graph.addNode(GradeGraph.INVERT);
        graph.setRange(3, 1, 1);
        for (int channel = 0; channel < 3; channel++) {
            graph.set(2, channel, 16);
            for (int place = 0; place < 32; place++) {
                int value = Checks.source(0, 0, place % 8, place / 8, 0);
                graph.set(1, 1, value);
                graph.set(1, 2, value);
                due("14: place " + place + " in " + channel, graph.compare(2, 3, 0), 255);
                due("14: the other way", graph.compare(3, 2, 0), 255);
            }
            graph.set(2, channel, 0);
            due("14: no place", graph.compare(2, 3, 0), 0);
        }
    }

    private static void promise14Compare() {
        GradeGraph graph = Checks.built("i(s(0))");
        due("14: the greatest difference", graph.compare(0, 1, 0), 255);
        due("14: the other way", graph.compare(1, 0, 0), 255);
        due("14: with itself", graph.compare(1, 1, 0), 0);
        due("14: each picture is made once", graph.count(2), 2);
        due("14: hits: one by the input, two by each later call", graph.count(1), 5);
        graph.addNode(GradeGraph.SHIFT);
        graph.connect(2, 0, 0);
        graph.set(2, 2, -9);
        due("14: in the last channel", graph.compare(0, 2, 0), 9);
        due("14: without its sign", graph.compare(2, 0, 0), 9);
        graph.set(2, 2, 0);
        due("14: no difference", graph.compare(2, 0, 0), 0);
        int asked = graph.count(1) + graph.count(2);
        due("14: compare(3, 0, 0)", graph.compare(3, 0, 0), BAD_INDEX);
        due("14: compare(-1, 0, 0)", graph.compare(-1, 0, 0), BAD_INDEX);
        due("14: compare(0, 3, 0)", graph.compare(0, 3, 0), BAD_INDEX);
        due("14: compare(0, -1, 0)", graph.compare(0, -1, 0), BAD_INDEX);
        due("14: compare(0, 0, 100)", graph.compare(0, 0, 100), BAD_INDEX);
        due("14: compare(0, 0, -1)", graph.compare(0, 0, -1), BAD_INDEX);
        due("14: errors do not ask", graph.count(1) + graph.count(2), asked);
    }
}
