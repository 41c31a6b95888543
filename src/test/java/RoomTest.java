import java.lang.management.ManagementFactory;

/** All calls of a run live in one room: an object is made whole by its constructor, and no call makes anything. */
public final class RoomTest {
    public static void main(String[] args) {
        com.sun.management.ThreadMXBean beans = (com.sun.management.ThreadMXBean) ManagementFactory.getThreadMXBean();
        long thread = Thread.currentThread().getId();
        calls(new FloodTax());
        FloodTax x = new FloodTax();
        beans.getThreadAllocatedBytes(thread);
        long before = beans.getThreadAllocatedBytes(thread);
        beans.getThreadAllocatedBytes(thread);
        long asking = beans.getThreadAllocatedBytes(thread) - before;
        before = beans.getThreadAllocatedBytes(thread);
        calls(x);
        long made = beans.getThreadAllocatedBytes(thread) - before;
        Check.holds("calls make nothing, but made " + made + " bytes (asking makes " + asking + ")", made <= asking);
        Check.finish();
    }

    private static void calls(FloodTax x) {
        for (int i = 0; i < 24; i++) {
            x.strip(10 + i, i, 0);
            x.read(i, 10 * i, i);
            x.table(i % 8, 5 * i, i);
            x.take(i % 10, i, 1000 * i, 0);
        }
        // "tax1of2from3;free 1 "
        x.feed(0x74617831, 0x6f663266, 0x726f6d33, 0x3b667265, 0x65203120);
        x.decrees();
        x.feed(0, 0, 0, 0, 0);
        x.decrees();
        x.lose(1);
        x.lose(2);
        x.draw(0, 3, 50);
        for (int i = 0; i < 24; i++) {
            x.tax(i, 500, i % 5);
            x.harvest(i, 500);
            x.foretold(i, 20);
            x.gain(i % 10, 500);
            x.led(100 * i, 500, i % 2);
            x.sheaves(500);
            x.count(i % 7);
        }
    }
}
