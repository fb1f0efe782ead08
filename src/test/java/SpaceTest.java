import com.sun.management.ThreadMXBean;
import java.lang.management.ManagementFactory;

/** A whole run of the dearest calls makes few objects: all space is made with the object. */
public final class SpaceTest {
    private static final int CALLS = 512;
    private static final long MOST_BYTES = 100_000;

    public static void main(String[] arguments) {
        Checks checks = new Checks();
        ThreadMXBean threads = (ThreadMXBean) ManagementFactory.getThreadMXBean();
        long thread = Thread.currentThread().getId();
        run();
        long before = threads.getThreadAllocatedBytes(thread);
        long sum = run();
        long bytes = threads.getThreadAllocatedBytes(thread) - before;
        System.out.println("a run of " + CALLS + " calls made " + bytes + " bytes, sum " + sum);
        checks.holds("bytes of a run", bytes <= MOST_BYTES);
        checks.finish("SpaceTest");
    }

    private static long run() {
        GradeGraph graph = new GradeGraph();
        String text = "b(b(s(1),s(2),s(3)),i(l(s(5),3)),k(g(t(s(4),-9),3),2,0,255,9))";
        for (int index = 0; index < text.length(); index++) {
            graph.append(text.charAt(index));
        }
        long sum = graph.build();
        graph.save(0);
        for (int call = text.length() + 2; call < CALLS; call++) {
            int frame = call % 100;
            switch (call % 8) {
                case 0 -> sum += graph.sum(11, frame, 0, 3);
                case 1 -> sum += graph.compare(11, 4, frame);
                case 2 -> sum += graph.checksum();
                case 3 -> sum += graph.restore(0);
                case 4 -> sum += graph.build();
                case 5 -> sum += graph.connect(11, 0, 3);
                case 6 -> sum += graph.faultDepth();
                default -> sum += graph.value(11, frame, 1, 1, 1);
            }
        }
        return sum;
    }
}
