import com.sun.management.ThreadMXBean;
import java.lang.management.ManagementFactory;

/** All calls of a run live in one room: an object is small, and no call makes anything. */
public final class RoomTest {
    private static final Due due = new Due("RoomTest");
    private static final ThreadMXBean threads = (ThreadMXBean) ManagementFactory.getThreadMXBean();
    private static long sink = 0;

    public static void main(String[] args) {
        long me = Thread.currentThread().getId();
        callAll(new DigOrder());
        long before = threads.getThreadAllocatedBytes(me);
        DigOrder x = new DigOrder();
        long made = threads.getThreadAllocatedBytes(me);
        for (int round = 0; round < 8; round++) {
            callAll(x);
        }
        long behind = threads.getThreadAllocatedBytes(me);
        // The measuring itself makes a little; a call that made even one small row would make far more.
        due.is("bytes of an object below 100000: " + (made - before), made - before < 100000 ? 1 : 0, 1);
        due.is("bytes of the calls below 2000: " + (behind - made), behind - made < 2000 ? 1 : 0, 1);
        System.out.println("RoomTest: an object of " + (made - before) + " bytes, " + (behind - made) + " by calls");
        if (sink == Long.MIN_VALUE) {
            System.out.println(sink);
        }
        due.end();
    }

    private static void callAll(DigOrder x) {
        for (int u = 0; u < 12; u++) {
            sink += x.unit(u % 6) + x.set(u, 4, u % 6) + x.of(u, 4) + x.tie(u, u + 1) + x.tie(0, u);
        }
        for (int what = 0; what < 7; what++) {
            sink += x.told(what) + x.below(what, what) + x.cycle(what) + x.level(what) + x.idle(what) + x.proof(what);
            sink += x.over(what, 1) + x.rank(what) + x.bounds(what, 0) + x.middle(what) + x.rate(what) + x.age(what, 0);
            sink += x.dig(what) + x.dug(what) + x.orders() + x.order(what, what) + x.tray(0, 0, what) + x.held(0, 0, 0);
            sink += x.see(what, 1, true) + x.fits(0) + x.event(what % 4, what) + x.after(0) + x.after(1);
            sink += x.tape(what, what, 9) + x.item(what, 0, 5) + x.peek(what, 0) + x.shift(0, 0, 0, 1, 8) + x.judge(1, 0);
            sink += x.draw(what) + x.paper(what) + x.count(what) + x.lay();
        }
        for (int i = 0; i < 8; i++) {
            sink += x.feed("a over c".charAt(i));
        }
        sink += x.read() + x.image() + x.tie(11, 0) + x.cycle(-1) + x.draw(1) + x.undo() + x.untie(0, 1);
    }
}
