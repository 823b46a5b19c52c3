/** Promises 30 to 33: see, fits, event, after. */
public final class SeenTest {
    private static final Due due = new Due("SeenTest");

    public static void main(String[] args) {
        see();
        fits();
        fitsWithCycle();
        event();
        after();
        afterCycle();
        afterCrossing();
        due.end();
    }

    private static void see() {
        DigOrder x = Due.withUnits(2);
        due.is("see(0, 2)", x.see(0, 2, true), DigOrder.NONE);
        due.is("see(2, 0)", x.see(2, 0, true), DigOrder.NONE);
        due.is("see(-2, 0)", x.see(-2, 0, true), DigOrder.NONE);
        due.is("see(0, -1)", x.see(0, -1, true), DigOrder.NONE);
        for (int row = 1; row <= 5; row++) {
            due.is("see", x.see(0, row % 2, false), row);
        }
        due.is("a sixth", x.see(0, 1, true), DigOrder.FULL);
        due.is("none ahead of full", x.see(0, 2, true), DigOrder.NONE);
        due.is("rows", x.count(0), 5);
        due.is("none then", x.see(-1, 99, true), 0);
        due.is("rows", x.count(0), 0);
        due.is("see once more", x.see(1, 1, true), 1);
    }

    private static void fits() {
        DigOrder x = Due.withUnits(4);
        due.is("no ties", x.fits(0), 0);
        due.is("no first", x.fits(1), -5);
        x.tie(2, 3);
        x.tie(0, 1);
        x.tie(1, 2);
        x.tie(0, 2);
        due.is("nothing seen", x.fits(0), 4);
        due.is("the first came first", x.fits(1), 203);
        x.see(0, 2, true);
        due.is("two ways there", x.fits(0), 4);
        x.see(0, 3, true);
        due.is("2 above 3 is needed", x.fits(0), 3);
        due.is("the first", x.fits(1), 1);
        x.see(1, 3, false);
        due.is("1 does not reach 3", x.fits(0), 1);
        due.is("the first", x.fits(1), 102);
        x.see(3, 3, false);
        due.is("itself not", x.fits(0), 1);
        x.see(3, 3, true);
        due.is("none", x.fits(0), 0);
        due.is("no first", x.fits(1), -5);
        due.is("fits(2)", x.fits(2), DigOrder.NONE);
        due.is("fits(-1)", x.fits(-1), DigOrder.NONE);
        due.is("the ties stay", x.told(1), 4);
    }

    private static void fitsWithCycle() {
        DigOrder x = Due.withUnits(4);
        x.tie(0, 1);
        x.tie(1, 0);
        x.tie(2, 3);
        x.see(0, 0, true);
        due.is("the cycle is seen", x.fits(0), 1);
        due.is("the tie beside it", x.fits(1), 203);
        x.see(-1, 0, false);
        x.see(0, 0, false);
        due.is("no cycle is seen", x.fits(0), 2);
        due.is("the first of it", x.fits(1), 1);
    }

    private static void event() {
        DigOrder x = Due.withUnits(2);
        due.is("event(4, 0)", x.event(4, 0), DigOrder.NONE);
        due.is("event(-2, 0)", x.event(-2, 0), DigOrder.NONE);
        due.is("event(0, 2)", x.event(0, 2), DigOrder.NONE);
        due.is("event(0, -1)", x.event(0, -1), DigOrder.NONE);
        for (int row = 1; row <= 8; row++) {
            due.is("event", x.event(row % 4, row % 2), row);
        }
        due.is("a ninth", x.event(0, 0), DigOrder.FULL);
        due.is("none ahead of full", x.event(4, 0), DigOrder.NONE);
        due.is("rows", x.count(1), 8);
        due.is("none then", x.event(-1, 99), 0);
        due.is("rows", x.count(1), 0);
        due.is("event once more", x.event(3, 1), 1);
    }

    private static void after() {
        DigOrder x = Due.withUnits(4);
        x.tie(0, 1);
        x.tie(1, 2);
        x.tie(2, 3);
        due.is("no events", x.after(0), 1);
        x.event(0, 2);
        due.is("2 is dug, whatever lies above it", x.after(0), 3);
        x.event(0, 2);
        due.is("once more is nothing", x.after(0), 3);
        x.event(1, 0);
        due.is("ties from 0 down go", x.after(0), 6);
        due.is("ties stay in deed", x.told(1), 3);
        due.is("nothing is dug in deed", x.told(5), 0);
        due.is("orders in deed", x.orders(), 1);
        due.is("after(2)", x.after(2), DigOrder.NO);
        due.is("after(-1)", x.after(-1), DigOrder.NO);
        x.event(-1, 0);
        x.event(1, 1);
        due.is("ties to 1 stay", x.after(0), 6);
        x.dig(0);
        x.event(0, 0);
        due.is("what is dug in deed", x.after(0), 3);
        due.is("dug in deed", x.told(5), 1);
    }

    private static void afterCycle() {
        DigOrder x = Due.withUnits(3);
        x.tie(0, 1);
        x.tie(1, 0);
        due.is("a cycle", x.after(0), 0);
        due.is("a cycle, crossing", x.after(1), -5);
        x.event(0, 0);
        x.event(0, 1);
        x.event(0, 2);
        due.is("a cycle, all dug", x.after(0), 0);
        x.event(1, 1);
        due.is("the cycle is gone", x.after(0), 1);
        due.is("the cycle is gone, crossing", x.after(1), 0);
    }

    private static void afterCrossing() {
        DigOrder x = Due.withUnits(3);
        x.tie(0, 1);
        x.tie(1, 2);
        x.set(2, 2, 500);
        x.set(0, 3, 600);
        due.is("none crosses", x.after(1), 0);
        x.event(2, 2);
        due.is("all cross", x.after(1), 3);
        x.event(1, 0);
        due.is("none crosses", x.after(1), 0);
        x.set(0, 2, 1001);
        x.event(3, 0);
        due.is("one crosses", x.after(1), 1);
        x.event(2, 0);
        due.is("the later one holds", x.after(1), 0);
        due.is("from in deed", x.of(0, 2), 1001);
        due.is("to in deed", x.of(0, 3), 600);
        x.event(-1, 0);
        due.is("those in deed cross", x.after(1), 1);
    }
}
