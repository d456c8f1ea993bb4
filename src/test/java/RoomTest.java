import java.lang.management.ManagementFactory;
import java.util.Random;

/** A run of 512 calls has to fit into one room; this one stays far below it. */
public final class RoomTest {
    private static final long MOST_BYTES = 1_000_000;

    public static void main(String[] args) {
        long used = run();
        used = Math.min(used, run());
        Check check = new Check();
        System.out.println(used + " bytes in a run of 512 calls");
        check.same("a run keeps to its room", 1, used < MOST_BYTES ? 1 : 0);
        check.close();
    }

    private static long taken() {
        return ((com.sun.management.ThreadMXBean) ManagementFactory.getThreadMXBean()).getCurrentThreadAllocatedBytes();
    }

    private static long run() {
        Random random = new Random(7);
        int[] points = random.ints(512, 0, 49).toArray();
        AtariGarden x = new AtariGarden();
        long before = taken();
        for (int i = 0; i < 8; i++) {
            x.player(i);
        }
        for (int g = 0; g < 16; g++) {
            x.game(g % 2, 2 + g % 3, 3600, 5, 60);
            x.resign(g);
            x.lesson(g, 0);
            x.branch(2 * g, 5);
        }
        x.judge(0);
        x.settle();
        for (int i = 80; i < 512; i++) {
            x.ladder(15, points[i], 8);
        }
        return taken() - before;
    }
}
