import java.lang.management.ManagementFactory;

/** A run lives in one small room: all rows are made with the object, and its calls make none. */
final class RoomTest {
    private static final Due DUE = new Due("RoomTest");

    public static void main(String[] args) {
        com.sun.management.ThreadMXBean beans =
                (com.sun.management.ThreadMXBean) ManagementFactory.getThreadMXBean();
        long own = Thread.currentThread().getId();
        beans.getThreadAllocatedBytes(own);
        play(new YesPlanes());
        long atFirst = beans.getThreadAllocatedBytes(own);
        YesPlanes x = new YesPlanes();
        long made = beans.getThreadAllocatedBytes(own);
        play(x);
        long played = beans.getThreadAllocatedBytes(own);
        DUE.holds("an object takes below 100,000 bytes, not " + (made - atFirst), made - atFirst < 100_000);
        DUE.holds("512 calls take next to nothing, not " + (played - made), played - made < 20_000);
        DUE.end();
    }

    private static void play(YesPlanes x) {
        for (int k = 0; k < 40; k++) {
            x.point((k * 37) % 101 - 50, (k * 53) % 89 - 44, k % 4 == 0 ? 1 : 0);
        }
        for (int n = 0; n < 10; n++) {
            x.drop(n);
            x.point(n, n, 1);
            x.paint(n, n % 2, 100 * n + 7);
            x.sheet(n % 4, n % 4, 100);
            x.write(n % 4, n, n);
            x.copy(n % 4, 0, n % 4, 50, 50);
            x.read(n % 4, n);
            x.drop(3);
            x.take(n % 4, 0, 1, 1);
            x.parted();
            x.wide(0);
            x.side(0);
            x.meet(0);
            x.check(1, 2, 3);
            x.ways(12);
            x.isWay(12, 77);
            x.best(12, 0);
            x.shatter(7);
            x.learn(1000);
            x.learnt(0);
            x.judge(n, 1, n);
            x.halve();
            x.left();
            x.strong(12);
            x.step(0, 0);
            x.end();
            x.mass(0);
            x.vote(n, n);
            x.hull(n % 2, 0);
            x.depth(n, n);
            x.halves();
            x.boxes();
            x.image(n % 3);
            x.back(n % 3);
            x.count(4);
            x.status();
        }
    }
}
