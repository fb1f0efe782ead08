/** Any arguments in some states: no call throws, and all answers are numbers or known constants. */
public final class ErrorTest {
    private static final int[] ODD = {
        Integer.MIN_VALUE, Integer.MIN_VALUE + 1, -1005, -1001, -256, -2, -1, 0, 1, 2, 3, 4, 5, 6, 7, 8, 11, 12, 13,
        15, 16, 48, 49, 79, 80, 99, 100, 127, 128, 255, 256, 999, 1000, 1 << 16, 1 << 30, Integer.MAX_VALUE - 1,
        Integer.MAX_VALUE,
    };
    /** What is left of the 512 calls of an object when one of the scenes has been made. */
    private static final int CALLS = 250;
    private static final Checks CHECKS = new Checks();

    private final int state;
    private GradeGraph graph;
    private int calls = CALLS;

    private ErrorTest(int state) {
        this.state = state;
    }

    public static void main(String[] arguments) {
        for (int state = 0; state < 3; state++) {
            ErrorTest test = new ErrorTest(state);
            test.changes();
            test.looks();
        }
        CHECKS.finish("ErrorTest");
    }

    /** An object on which so many calls can be made still. */
    private GradeGraph graph(int number) {
        if (calls + number > CALLS) {
            calls = 0;
            graph = made();
        }
        calls += number;
        return graph;
    }

    private GradeGraph made() {
        switch (state) {
            case 0:
                return new GradeGraph();
            case 1:
                return Checks.built("b(s(1),i(s(2)),k(s(3),0,0,0,0))");
            default:
                return EdgeErrorTest.scene();
        }
    }

    private void changes() {
        for (int a : ODD) {
            GradeGraph x = graph(6);
            answers(x.addNode(a), x.count(a), x.append(a), x.save(a), x.setRoom(a), x.restore(a));
            for (int b : ODD) {
                x = graph(4);
                answers(x.node(a, b), x.input(a, b), x.isCached(a, b));
                x.parameter(a, b);
                for (int c : ODD) {
                    x = graph(4);
                    answers(x.connect(a, b, c), x.set(a, b, c), x.setRange(a, b, c), x.compare(a, b, c));
                }
            }
            x = graph(5);
            answers(x.faultPosition(), x.faultDepth(), x.build(), x.clear(), x.clearText());
        }
    }

    private void looks() {
        for (int a : ODD) {
            for (int b : ODD) {
                for (int c : ODD) {
                    GradeGraph x = graph(4);
                    answers(x.scope(0, a, b, c), x.sum(a, 0, b, c), x.value(a, b, c, 0, 0), x.value(0, 0, a, b, c));
                }
            }
        }
    }

    private static void answers(int... answers) {
        for (int answer : answers) {
            CHECKS.holds("answer " + answer, answer >= 0 && answer <= 8160 || answer >= -1005 && answer <= -1001);
        }
    }
}
