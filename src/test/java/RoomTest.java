import java.lang.management.ManagementFactory;

/** All calls of one run live in one room: what an object makes in 512 calls is counted in bytes. */
public final class RoomTest {
    private static final com.sun.management.ThreadMXBean THREADS =
        (com.sun.management.ThreadMXBean) ManagementFactory.getThreadMXBean();

    private RoomTest() {
    }

    private static long madeByRun() {
        long before = THREADS.getThreadAllocatedBytes(Thread.currentThread().getId());
        SlateRing x = new SlateRing();
        int calls = 0;
        for (int r = 0; r < 3; r++) {
            x.race(8);
        }
        for (int b = 0; b < 4; b++) {
            x.book(1000000);
        }
        x.feed(0x3B013C01, 0, 0, 0, 0);
        x.ladder(2);
        for (int i = 0; i < 96; i++) {
            x.slate(i % 4, i / 32, i / 4 % 8, i % 2);
        }
        // c(k<1&[t+q*o]%7=n)
        for (int b = 0; b < 4; b++) {
            x.feed(0x63286B3C, 0x31265B74, 0x2B712A6F, 0x5D25373D, 0x6E290000);
            x.way(b, 18);
        }
        for (int i = 0; i < 80; i++) {
            x.bet(i % 16, i % 4, i % 3, i % 3, i % 8, 100);
        }
        for (int i = 0; i < 40; i++) {
            x.most(0, 3000, -1);
            x.layOff(0, 0, 5000, 0);
            x.plan(3, 0, 2, 100, 4, -1);
            x.together(1, 2, 1, 599);
            x.purse(1, 1, 599);
            x.chance(0, 2, 0);
            x.check(0, 0);
        }
        x.run(0, 1, 1);
        return THREADS.getThreadAllocatedBytes(Thread.currentThread().getId()) - before;
    }

    public static void main(String[] args) {
        madeByRun();
        madeByRun();
        long made = madeByRun();
        System.out.println("a run makes " + made + " bytes");
        // some 16 bytes an object, 4 an element: far below what one of many runs may take
        if (made > 40000) {
            System.exit(1);
        }
    }
}
