import java.lang.management.ManagementFactory;

/** What objects and calls take: all calls of a run share one room of 7.3 million fields and elements. */
public final class RoomTest {
    private static final com.sun.management.ThreadMXBean THREADS =
            (com.sun.management.ThreadMXBean) ManagementFactory.getThreadMXBean();

    private static long taken() {
        return THREADS.getThreadAllocatedBytes(Thread.currentThread().getId());
    }

    /** Bytes that the largest object takes; a disk of one number a byte would take four times as many. */
    private static final long OBJECT = 600000;
    /** Bytes that a call may take on average, so that 512 of them stay far below what the object itself takes. */
    private static final long CALL = 400;

    public static void main(String[] args) {
        warm();
        long before = taken();
        TableVolumes x = new TableVolumes(1024);
        long object = taken() - before;
        Kit.holds("a new object takes " + object + " bytes, at most " + OBJECT, object <= OBJECT);
        x.format(2, 8, 2, 1);
        makeFiles(x, 100);
        before = taken();
        int calls = dearCalls(x);
        long each = (taken() - before) / calls;
        Kit.holds("a call takes " + each + " bytes on average, at most " + CALL, each <= CALL);
        Kit.end();
    }

    /** So that loading classes is not counted. */
    private static void warm() {
        TableVolumes x = new TableVolumes(256);
        x.format(2, 8, 2, 1);
        makeFiles(x, 2);
        dearCalls(x);
    }

    private static void makeFiles(TableVolumes x, int files) {
        for (int i = 0; i < files; i++) {
            x.feed('a' << 16 | 'b', (i / 10 + '0') << 16 | (i % 10 + '0'), 0, 0, 0);
            x.end(8);
            x.make(false);
        }
    }

    private static int dearCalls(TableVolumes x) {
        int calls = 0;
        for (int i = 0; i < 10; i++) {
            x.grow(0, 90000, i);
            x.cut(0, 5);
            x.poke(7, 0, i);
            x.fault();
            x.letter(1, 2);
            x.about(1, 3);
            x.content(0, 4);
            x.stamp(0, 2, 33, 0);
            x.write(0);
            x.feed('x' << 16 | 'y', ('0' + i) << 16, 0, 0, 0);
            x.end(6);
            x.make(true);
            x.enter(x.items() - 1);
            x.up();
            x.remove(x.items() - 1);
            x.byteAt(0, i);
            x.free();
            calls += 19;
        }
        x.format(2, 8, 2, 1);
        return calls + 1;
    }

    private RoomTest() {
    }
}
