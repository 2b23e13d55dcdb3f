import com.sun.management.ThreadMXBean;
import java.lang.management.ManagementFactory;

/** All calls of one run live in one room: an object is small, and its calls make nothing more (but what they throw). */
public final class RoomTest {
    private static final ThreadMXBean THREADS = (ThreadMXBean) ManagementFactory.getThreadMXBean();

    private static long made() {
        return THREADS.getThreadAllocatedBytes(Thread.currentThread().getId());
    }

    private static void text(BeadRings x, int... signs) {
        for (int v : signs) {
            x.sign(v);
        }
    }

    private static long dearest(BeadRings x) {
        long sum = 0;
        text(x, 0x61626364, 0x61626364);
        sum += x.strings();
        text(x, 0x61616262, 0x61626364);
        sum += x.strings();
        text(x, 0x2d742b66, 0x2a6d2d64, 0x2f682b6e);
        sum += x.rule();
        for (int n = 1; n <= 10; n++) {
            for (int k = 1; k <= 4; k++) {
                sum += x.many(n, k) + x.nth(n, k, 999) + x.once(k, n);
            }
            sum += x.made(n) + x.dear(n) + x.words(0, n) + x.ring(n) + x.bargains(n) + x.years(n, 60) + x.felt(n, 0) + x.heard(0, n);
        }
        for (int b = 0; b < 2; b++) {
            sum += x.rank(b) + x.next(b) + x.least(b) + x.alike(b, 0) + x.far(b, 0) + x.twice(b) + x.arc(b) + x.odds(b);
            sum += x.guess(b) + x.feels(b) + x.bracelet(b, 4) + x.bead(b, 0) + x.stock(b);
        }
        text(x, 0x61626364, 0x61626364);
        sum += x.ways();
        text(x, 0x61626364);
        sum += x.finds(0);
        text(x, 0x6e2b6e2b, 0x6e2b6e2b, 0x6e2b6e2d);
        sum += x.law();
        text(x, 0x72303166, 0x31783030);
        sum += x.day();
        sum += x.fits() + x.asks() + x.kinds() + x.count(4) + x.rolls(0, 3) + x.swaps(0, 0) + x.threads(0, 0, 0) + x.cuts(0, 0);
        sum += (x.keep(0) ? 1 : 0) + x.parts(1) + x.sells(0) + x.buys(0, 1) + x.sheet(2, 4, 12, 0) + x.undo() + x.forget() + x.denies();
        return sum + (x.again(0) ? 1 : 0) + x.parts(1) + x.parts(0) + x.row(0);
    }

    public static void main(String[] args) {
        // What the machine makes when it first comes to a line is not the class's own.
        for (int i = 0; i < 3; i++) {
            dearest(new BeadRings());
        }
        long before = made();
        BeadRings x = new BeadRings();
        long first = made() - before;
        Due.due("a new object takes some 13 kB, but " + first, true, first > 0 && first < 16000);
        dearest(x);
        before = made();
        for (int i = 0; i < 50; i++) {
            dearest(x);
        }
        long more = made() - before;
        // Texts for sign() are arrays of this test: seven a time, of some 16 to 32 bytes.
        Due.due("calls make nothing, but " + more, true, more <= 50 * 7 * 32 + 1000);
        Due.end("RoomTest");
    }
}
