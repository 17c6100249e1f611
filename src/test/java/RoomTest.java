import com.sun.management.ThreadMXBean;
import java.lang.management.ManagementFactory;

/** All calls of a run live in one room: calls make no objects, and a new object is small. */
public final class RoomTest {
    // An object is used for at most 512 calls: 108 build it, a round is 25.
    private static final int ROUNDS = 13;
    private static final int OBJECTS = 40;
    private static final ThreadMXBean THREADS = (ThreadMXBean) ManagementFactory.getThreadMXBean();

    public static void main(String[] args) {
        askAll(build());
        long before = used();
        build();
        Due.isTrue("a new object and its building stay under 64 KiB", used() - before < 65536);
        ChanceCourt[] built = new ChanceCourt[OBJECTS];
        for (int i = 0; i < OBJECTS; i++) {
            built[i] = build();
        }
        before = used();
        for (ChanceCourt x : built) {
            for (int round = 0; round < ROUNDS; round++) {
                x.mark(round % 2 == 0 ? 64 : 192);
                askAll(x);
            }
        }
        Due.isTrue("520 rounds of all calls stay under 64 KiB", used() - before < 65536);
        Due.end();
    }

    private static long used() {
        return THREADS.getThreadAllocatedBytes(Thread.currentThread().getId());
    }

    private static ChanceCourt build() {
        ChanceCourt x = new ChanceCourt();
        for (int s = 0; s < 8; s++) {
            x.state();
        }
        for (int s = 0; s < 5; s++) {
            for (int a = 0; a < 4; a++) {
                x.act(s, s == 3 ? 2 : 0, 100 * a);
                x.outcome(s, a, (s + 1) % 5, 3 + a);
                x.outcome(s, a, (s + a + 2) % 5 == (s + 1) % 5 ? 5 : (s + a + 2) % 5, 4);
                x.outcome(s, a, 6, 1);
                x.outcome(s, a, 7, 4 - a);
            }
        }
        return x;
    }

    private static void askAll(ChanceCourt x) {
        x.value(0, false, 0);
        x.value(0, true, 1);
        x.choice(0);
        x.distance(1);
        x.sum(0, 1, 0);
        x.within(0, 10, false, 0);
        x.within(0, 10, true, 0);
        x.bound(0, 12);
        x.sets(2);
        x.reached(0);
        x.cost(0, 0);
        x.hole(0, 2);
        x.twin(4);
        x.count(4);
        x.look(0, 0, 10);
        for (int what = 1; what <= 4; what++) {
            x.keep(what, what, 0, 0);
        }
        x.make(5, 4, 60);
        x.copy(4, 0, 5, 0, 16);
        x.element(5, 1);
        x.weight(1);
        x.ratio(2, 2);
    }
}
