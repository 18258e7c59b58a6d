import com.sun.management.ThreadMXBean;
import java.lang.management.ManagementFactory;

/** The calls of a run share one room, so a call on an object that stands makes next to nothing. */
public final class RoomTest {
    private static final int MOST_BYTES_OF_CALLS = 20_000;
    private static final int MOST_BYTES_OF_AN_OBJECT = 20_000;

    public static void main(String[] args) {
        ThreadMXBean threads = (ThreadMXBean) ManagementFactory.getThreadMXBean();
        long self = Thread.currentThread().getId();
        // The first round loads classes, which is not what a call makes.
        for (int round = 0; round < 2; round++) {
            long start = threads.getThreadAllocatedBytes(self);
            UnitDesk desk = new UnitDesk();
            long made = threads.getThreadAllocatedBytes(self);
            for (int i = 0; i < 512; i++) {
                call(desk, i);
            }
            long end = threads.getThreadAllocatedBytes(self);
            if (round == 1) {
                Expect.due("an object is small", made - start <= MOST_BYTES_OF_AN_OBJECT ? 1 : 0, 1);
                Expect.due("512 calls make little", end - made <= MOST_BYTES_OF_CALLS ? 1 : 0, 1);
            }
        }
        Expect.finish();
    }

    private static void call(UnitDesk desk, int i) {
        String line = "cases 0 :a :a ";
        if (i < 300) {
            int at = i % (line.length() + 1);
            if (at < line.length()) {
                desk.put(line.charAt(at));
            } else {
                desk.line();
            }
            return;
        }
        switch (i % 8) {
            case 0: desk.assemble(); break;
            case 1: desk.check(); break;
            case 2: desk.told(0, -1); break;
            case 3: desk.run(30); break;
            case 4: desk.item(0, 1); break;
            case 5: desk.set(0, 256); break;
            case 6: desk.read(0, 5); break;
            default: desk.state(24); break;
        }
    }
}
