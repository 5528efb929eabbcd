import com.sun.management.ThreadMXBean;
import java.lang.management.ManagementFactory;
import java.util.Random;

/** All calls of one run live in one room: what an object makes in its 512 calls stays small, whatever is called. */
public final class RoomTest {
    private static final int CALLS = 512;
    private static final long MOST_BYTES = 1_000_000;
    private static final ThreadMXBean THREADS = (ThreadMXBean) ManagementFactory.getThreadMXBean();

    private RoomTest() {
    }

    private static long made() {
        return THREADS.getThreadAllocatedBytes(Thread.currentThread().getId());
    }

    public static void main(String[] args) {
        long most = 0;
        for (int run = 0; run < 40; run++) {
            Random random = new Random(run);
            long before = made();
            play(random, run % 4);
            most = Math.max(most, made() - before);
        }
        System.out.println("at most " + most + " bytes are made in a run");
        if (most > MOST_BYTES) {
            System.exit(1);
        }
    }

    /** Doors come one by one, so that the searches' rows grow as often as they can; then every dear call again and again. */
    private static void play(Random random, int style) {
        WhoOpensOne x = new WhoOpensOne();
        x.one(1);
        x.one(2);
        x.row(0, 0, 4);
        for (int i = 0; i < 4; i++) {
            x.set(0, i, random.nextInt(4));
        }
        x.feed(0x6F6E6531, 4);
        for (int calls = 8; calls < CALLS; calls++) {
            boolean grows = calls % 12 == 8 && x.status(0) < (style == 3 ? 14 : 9);
            if (grows) {
                int door = x.door(style == 0 ? 0 : random.nextInt(6), random.nextInt(4), 4 + random.nextInt(4));
                x.stand(door, random.nextBoolean());
            } else {
                dearCall(x, random.nextInt(12), random);
            }
        }
    }

    private static void dearCall(WhoOpensOne x, int which, Random random) {
        switch (which) {
            case 0: x.errands(0, 0, 4); break;
            case 1: x.coming(random.nextInt(2), 0); break;
            case 2: x.all(0); break;
            case 3: x.first(0, 0); break;
            case 4: x.lost(); break;
            case 5: x.boxes(98); break;
            case 6: x.endless(); break;
            case 7: x.spare(); break;
            case 8: x.evening(60); break;
            case 9: x.image(); x.back(); break;
            case 10: x.row(random.nextInt(8), random.nextInt(5), 40); break;
            default: x.told(0, 4, 0);
        }
    }
}
