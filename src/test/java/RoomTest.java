import com.sun.management.ThreadMXBean;
import java.lang.management.ManagementFactory;

/** All calls of a run live in one room of 7.3 million fields and elements; this keeps far below it. */
public final class RoomTest {
    private static final long MOST_BYTES = 200_000;
    private static final ThreadMXBean THREADS = (ThreadMXBean) ManagementFactory.getThreadMXBean();

    public static void main(String[] args) {
        longRun();
        long before = THREADS.getCurrentThreadAllocatedBytes();
        longRun();
        long used = THREADS.getCurrentThreadAllocatedBytes() - before;
        System.out.println(used + " bytes in a long run");
        Check check = new Check();
        check.same("a run keeps to its room", 1, used < MOST_BYTES ? 1 : 0);
        check.close();
    }

    /** As many players, games and nodes as there can be, a board full of stones, and the dearest readings. */
    private static void longRun() {
        AtariGarden x = new AtariGarden();
        for (int i = 0; i < 8; i++) {
            x.player(5);
        }
        for (int g = 0; g < 15; g++) {
            x.game(g % 2, 2 + g % 3, 3600, 5, 60);
            x.resign(g);
            x.judge(g);
        }
        x.game(6, 7, 3600, 5, 60);
        for (int point = 0; point < 48; point++) {
            x.play(15, point, 0);
            x.pass(15, 0);
        }
        for (int i = 0; i < 60; i++) {
            x.lesson(15, i);
        }
        for (int i = 0; i < 250; i++) {
            x.ladder(15, i % 49, 8);
            x.net(15, i % 49, 3);
            x.settle();
        }
    }
}
