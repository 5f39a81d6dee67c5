import java.lang.management.ManagementFactory;

/**
 * All calls of one run live in one room of some 600,000 objects and 7.3 million elements. Bytes are what Java tells;
 * an element here is an int of four bytes, an object at least sixteen, so these limits lie far below the room's.
 */
public final class RoomTest {
    private static final long BYTES = 12_000_000L;

    public static void main(String[] args) {
        measure("512 new objects", RoomTest::newObjects);
        measure("objects with all lookers", RoomTest::lookers);
        measure("a full store asked again and again", RoomTest::fullStore);
        measure("texts read again and again", RoomTest::texts);
        TestTools.close();
    }

    private static void measure(String what, Runnable run) {
        // The first run loads classes, which is no part of the room.
        run.run();
        var threads = (com.sun.management.ThreadMXBean) ManagementFactory.getThreadMXBean();
        long before = threads.getThreadAllocatedBytes(Thread.currentThread().getId());
        run.run();
        long bytes = threads.getThreadAllocatedBytes(Thread.currentThread().getId()) - before;
        System.out.println(what + ": " + bytes + " bytes");
        TestTools.due(what + " takes " + bytes + " bytes", bytes < BYTES, true);
    }

    private static void newObjects() {
        for (int n = 0; n < 512; n++) {
            new OneBarrel();
        }
    }

    private static void lookers() {
        for (int n = 0; n < 73; n++) {
            OneBarrel x = new OneBarrel();
            for (int l = 0; l < 6; l++) {
                x.looker(l);
            }
        }
    }

    private static void fullStore() {
        OneBarrel x = new OneBarrel();
        x.tool(3);
        x.feed(0x63757420, 0x64726177, 0x2A343B20, 0x20202020, 0x20202020);
        x.laws();
        for (int n = 0; n < 16; n++) {
            x.barrel(0);
        }
        for (int n = 0; n < 40; n++) {
            x.shot(n % 16, 0);
        }
        for (int l = 0; l < 6; l++) {
            x.looker(l);
        }
        for (int k = 0; k < 10; k++) {
            x.pair(k, k + 1, 1);
        }
        for (int n = 0; n < 40; n++) {
            x.scene(n % 8, n, true);
        }
        for (int n = 0; n < 30; n++) {
            x.hair(n, 0, 5);
            x.odds(n % 6, 5, 1, 0);
            x.far(n % 6, 20);
            x.list(n % 6, n, 38);
            x.joined(n % 6, 0);
            x.joined(n % 6, 1);
            x.round(63, 0);
            x.own(n % 6, 0, 1, 2, 0);
            x.slid(n % 6, 0, n, 3);
            x.counted(n % 6, true, 0);
            x.lean(n % 6);
            x.says(n % 6, 0, 1, true);
        }
    }

    private static void texts() {
        OneBarrel x = new OneBarrel();
        x.looker(0);
        for (int n = 0; n < 128; n++) {
            x.feed(0x63757420, 0x313B6375, 0x7420323B, 0x20202020, 0x20202020);
            x.laws();
            x.feed(0x73616D65, 0x20313D31, 0x3B6E6F74, 0x20313D31, 0x3B202020);
            x.judgement(0);
        }
    }
}
