import java.lang.management.ManagementFactory;

/** All calls of a run live in one room: calls make nothing, and a constructor makes little. */
public final class RoomTest {
    /** Some 6,000 elements of 4 or 8 bytes. */
    private static final long MOST_OF_OBJECT = 60_000;
    /** The machine itself may make a little when it first runs a call. */
    private static final long MOST_OF_CALLS = 10_000;
    private static final Check CHECK = new Check();

    private static long answers = 0;

    private static void allCalls(ColourLessen x, int i) {
        answers += x.paint(0, 0, 576, 0x01020304 * i, 7 + i) + x.given(i % 64, 1, 2, 3, i % 256);
        answers += x.put(i % 24, 0, 1, 2, 3, 4) ? 1 : 0;
        answers += x.run(i % 3, 1 + i % 64, i % 21) + x.dither(i % 3) + x.told(2) + x.at(23, 23) + x.index(23, 23);
        answers += x.colour(0, 3) + x.nearest(9, 9, 9, i % 256) + x.sum(0) + x.count(0) + (x.exact() ? 1 : 0);
        if (i % 8 == 7) {
            x.clear();
        }
    }

    public static void main(String[] args) {
        if (!(ManagementFactory.getThreadMXBean() instanceof com.sun.management.ThreadMXBean room)) {
            System.out.println("this machine does not count what is made: nothing tested");
            return;
        }
        allCalls(new ColourLessen(24, 24), 1);
        CHECK.begin("room: what is made");
        long before = room.getCurrentThreadAllocatedBytes();
        ColourLessen x = new ColourLessen(24, 24);
        long made = room.getCurrentThreadAllocatedBytes();
        for (int i = 0; i < 36; i++) {
            allCalls(x, i);
        }
        long after = room.getCurrentThreadAllocatedBytes();
        CHECK.due("a constructor makes " + (made - before) + " bytes, too many", made - before > MOST_OF_OBJECT, false);
        CHECK.due("calls make " + (after - made) + " bytes, too many", after - made > MOST_OF_CALLS, false);
        System.out.println("made: " + (made - before) + " bytes by a constructor, " + (after - made) + " by calls");
        CHECK.end();
    }
}
