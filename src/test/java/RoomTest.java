import java.lang.management.ManagementFactory;

/** All memory is made at first: calls make next to nothing, and an object is far from filling the room. */
public final class RoomTest {
    public static void main(String[] args) {
        Check check = new Check("RoomTest");
        warmUp();
        long before = allocated();
        CubeStore s = new CubeStore(512);
        long made = allocated() - before;
        check.due("a new object takes " + made + " bytes", made < 16_000_000, true);
        Check.run(s, Check.SHOPS);
        s.open();
        int[] words = {0x73656c65, 0x63742063, 0x6f756e74, 0x282a293b, 0x20202020};
        before = allocated();
        for (int i = 0; i < 40; i++) {
            s.spread(400, i);
            s.load();
            s.choose(8);
            s.settle();
            s.feed(words[0], words[1], words[2], words[3], words[4]);
            s.run();
            s.cell(0, 0);
            s.audit();
            s.recover();
        }
        long calls = allocated() - before;
        check.due("calls took " + calls + " bytes", calls < 200_000, true);
        check.due("facts", s.count(1), 16000);
        check.end();
    }

    private static void warmUp() {
        CubeStore s = Check.opened(32, Check.SHOPS);
        s.stage(1);
        s.load();
        s.audit();
        allocated();
    }

    private static long allocated() {
        com.sun.management.ThreadMXBean threads = (com.sun.management.ThreadMXBean) ManagementFactory.getThreadMXBean();
        return threads.getThreadAllocatedBytes(Thread.currentThread().getId());
    }
}
