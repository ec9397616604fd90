import java.lang.management.ManagementFactory;

/** All calls of a run live in one room: no call may make rows of its own. */
final class RoomTest {
    public static void main(String[] args) {
        var threads = (com.sun.management.ThreadMXBean) ManagementFactory.getThreadMXBean();
        long me = Thread.currentThread().getId();
        BuntingBundles x = new BuntingBundles();
        for (int step = 0; step < 20; step++) {
            x.insert(step, step % 7, step % 5, step % 4, step % 3, step);
        }
        long hash = x.digest();
        long before = threads.getThreadAllocatedBytes(me);
        for (int call = 0; call < 400; call++) {
            hash += x.digest();
            x.setDelay(call % 4);
            x.exchange(call % 20, call * 7 % 20);
            hash += x.registerInLoop(20, 3) + x.pack();
        }
        long used = threads.getThreadAllocatedBytes(me) - before;
        Check.yes("2000 calls made " + used + " bytes of objects", used < 20000);
        before = threads.getThreadAllocatedBytes(me);
        BuntingBundles y = new BuntingBundles();
        used = threads.getThreadAllocatedBytes(me) - before;
        Check.yes("an object takes " + used + " bytes", used < 40000 && y.steps() == 0);
        Check.yes("the answers were asked for", hash != 0);
        Check.finish("RoomTest");
    }
}
