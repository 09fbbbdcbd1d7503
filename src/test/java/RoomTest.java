import java.lang.management.ManagementFactory;

/** What a run makes is counted: an object is small, and its calls make nothing more. */
public final class RoomTest {
    private static final Check CHECK = new Check("RoomTest");
    private static final com.sun.management.ThreadMXBean ROOM =
        (com.sun.management.ThreadMXBean) ManagementFactory.getThreadMXBean();

    public static void main(String[] args) {
        if (!ROOM.isThreadAllocatedMemorySupported() || !ROOM.isThreadAllocatedMemoryEnabled()) {
            System.out.println("RoomTest: this machine doesn't tell");
            return;
        }
        run();
        long before = made();
        SamovarOpinions x = new SamovarOpinions();
        CHECK.isTrue("an object has 16 KiB at most", made() - before <= 16384);
        before = made();
        run(x);
        CHECK.isTrue("calls make nothing to speak of", made() - before <= 4096);
        CHECK.end();
    }

    private static long made() {
        return ROOM.getThreadAllocatedBytes(Thread.currentThread().getId());
    }

    private static void run() {
        run(new SamovarOpinions());
    }

    /** Every call, the dear ones often. */
    private static void run(SamovarOpinions x) {
        for (int i = 0; i < 5; i++) {
            x.guest(i, i, i);
        }
        String text = "warms 14+topic*2-said*8;cools 3;screams last<4;";
        for (int i = 0; i < text.length(); i++) {
            x.feed(text.charAt(i));
        }
        x.text();
        x.force(1);
        for (int i = 0; i < 7; i++) {
            x.sheet(0, 2, 5);
            x.cell(0, 1, 1);
            x.cell(0, 2, 2);
            x.cell(0, 3, 3);
            x.cell(0, 4, 4);
            x.evening(0, 0);
            x.hold(0);
            x.warmest(0);
            x.soonest(0);
            x.ratherNot(0);
            x.topic(i % 5, 0);
            x.turns(0);
            x.film(1);
            for (int what = 0; what < 35; what++) {
                x.tells(1, what);
            }
            x.drawn(i);
            x.chance(i, 20, 0);
            x.image();
            x.back();
            x.count(1);
            x.copy(0, 0, 0, 1, 4);
            x.guests(0, 2, 0, 1);
            x.taken(3, 1);
            x.set(0, 0, 20);
            x.told(4, 7);
        }
    }
}
