/** Promises 19 to 25: dig, lay, dug, orders, order, tray, held. */
public final class DeedTest {
    private static final Due due = new Due("DeedTest");

    public static void main(String[] args) {
        dig();
        lay();
        orders();
        ordersWithDug();
        order();
        orderOfTwelve();
        tray();
        held();
        due.end();
    }

    private static void dig() {
        DigOrder x = Due.withUnits(3);
        x.tie(0, 1);
        x.tie(2, 1);
        due.is("dig below two", x.dig(1), DigOrder.STATE);
        due.is("dig(0)", x.dig(0), 1);
        due.is("dig below one", x.dig(1), DigOrder.STATE);
        due.is("dig(0) again", x.dig(0), DigOrder.STATE);
        due.is("dig(2)", x.dig(2), 2);
        due.is("dig(1)", x.dig(1), 3);
        due.is("dig(3)", x.dig(3), DigOrder.NONE);
        due.is("dig(-1)", x.dig(-1), DigOrder.NONE);
        due.is("told(5)", x.told(5), 3);
        DigOrder y = Due.withUnits(3);
        y.tie(0, 1);
        y.tie(1, 0);
        due.is("on a cycle", y.dig(0), DigOrder.STATE);
        due.is("beside a cycle", y.dig(2), 1);
    }

    private static void lay() {
        DigOrder x = Due.withUnits(3);
        due.is("none is dug", x.lay(), DigOrder.STATE);
        x.dig(2);
        x.dig(0);
        due.is("dug(0)", x.dug(0), 2);
        due.is("dug(1)", x.dug(1), 0);
        due.is("dug(2)", x.dug(2), -5);
        due.is("dug(far)", x.dug(Integer.MAX_VALUE), -5);
        due.is("dug(-1)", x.dug(-1), DigOrder.NONE);
        due.is("lay()", x.lay(), 0);
        due.is("dug(1) now", x.dug(1), -5);
        due.is("of(0, 5)", x.of(0, 5), 0);
        due.is("of(2, 5)", x.of(2, 5), 1);
        due.is("dig(1)", x.dig(1), 2);
        due.is("lay()", x.lay(), 1);
        due.is("lay()", x.lay(), 2);
        due.is("lay()", x.lay(), DigOrder.STATE);
    }

    private static void orders() {
        DigOrder x = new DigOrder();
        long want = 1;
        due.is("no units", x.orders(), 1);
        for (int n = 1; n <= 12; n++) {
            x.unit(0);
            want *= n;
            due.is("all orders of " + n, x.orders(), want);
        }
        for (int u = 0; u < 11; u++) {
            x.tie(u, u + 1);
            want /= u + 2;
            due.is("a chain of " + (u + 2), x.orders(), want);
        }
        x.untie(5, 6);
        due.is("two chains of six", x.orders(), 924);
        x.tie(11, 0);
        due.is("no cycle yet", x.orders(), 1);
        x.tie(5, 6);
        due.is("a cycle", x.orders(), 0);
    }

    private static void ordersWithDug() {
        DigOrder x = Due.withUnits(3);
        x.dig(1);
        x.tie(0, 1);
        x.tie(1, 2);
        due.is("what is dug holds nothing back", x.orders(), 2);
        due.is("the lesser ahead", x.order(0, 0), 0);
        due.is("the other first", x.order(1, 0), 2);
        x.untie(1, 2);
        x.dig(0);
        x.dig(2);
        due.is("none is left", x.orders(), 1);
        x.tie(1, 0);
        due.is("a cycle, all dug", x.orders(), 0);
        due.is("no order of it", x.order(0, 0), DigOrder.NONE);
    }

    private static void orderIs(DigOrder x, long k, int... units) {
        for (int i = 0; i < units.length; i++) {
            due.is("order(" + k + ", " + i + ")", x.order(k, i), units[i]);
        }
        due.is("order behind its end", x.order(k, units.length), DigOrder.NONE);
    }

    private static void order() {
        DigOrder x = Due.withUnits(4);
        x.tie(3, 0);
        x.tie(1, 2);
        due.is("orders", x.orders(), 6);
        orderIs(x, 0, 1, 2, 3, 0);
        orderIs(x, 1, 1, 3, 0, 2);
        orderIs(x, 2, 1, 3, 2, 0);
        orderIs(x, 3, 3, 0, 1, 2);
        orderIs(x, 4, 3, 1, 0, 2);
        orderIs(x, 5, 3, 1, 2, 0);
        due.is("order(6, 0)", x.order(6, 0), DigOrder.NONE);
        due.is("order(-1, 0)", x.order(-1, 0), DigOrder.NONE);
        due.is("order(0, -1)", x.order(0, -1), DigOrder.NONE);
        due.is("order(far, 0)", x.order(1L << 32, 0), DigOrder.NONE);
        due.is("order(least, 0)", x.order(Long.MIN_VALUE, 0), DigOrder.NONE);
        x.dig(3);
        orderIs(x, 0, 0, 1, 2);
        orderIs(x, 2, 1, 2, 0);
    }

    private static void orderOfTwelve() {
        DigOrder x = Due.withUnits(12);
        orderIs(x, 0, 0, 1, 2, 3, 4, 5, 6, 7, 8, 9, 10, 11);
        orderIs(x, 479001599L, 11, 10, 9, 8, 7, 6, 5, 4, 3, 2, 1, 0);
        due.is("one too many", x.order(479001600L, 0), DigOrder.NONE);
    }

    private static void tray() {
        DigOrder x = new DigOrder();
        for (int kind = 0; kind < 6; kind++) {
            x.unit(kind);
        }
        boolean[][] takes = {{true, true, true, true, true, true}, {false, true, false, false, true, false},
            {false, false, false, true, false, false}};
        for (int tray = 0; tray < 3; tray++) {
            int was = -5;
            for (int u = 0; u < 6; u++) {
                due.is("tray " + tray + " with kind " + u, x.tray(tray, 3, u), takes[tray][u] ? was : -12);
                was = takes[tray][u] ? u : was;
                due.is("what it holds", x.held(tray, 3, 0), was);
            }
            due.is("emptied", x.tray(tray, 3, -1), was);
            due.is("emptied again", x.tray(tray, 3, -1), -5);
        }
        due.is("tray 3", x.tray(3, 0, 0), DigOrder.NONE);
        due.is("tray -1", x.tray(-1, 0, 0), DigOrder.NONE);
        due.is("unit 6", x.tray(0, 0, 6), DigOrder.NONE);
        due.is("unit -2", x.tray(0, 0, -2), DigOrder.NONE);
        due.is("place 4", x.tray(0, 4, 0), -13);
        due.is("place -1", x.tray(0, -1, 0), -13);
        due.is("place 4 with nothing", x.tray(0, 4, -1), -13);
        due.is("none ahead of place", x.tray(0, 4, 6), DigOrder.NONE);
        due.is("place ahead of cast", x.tray(1, 4, 0), -13);
    }

    private static void held() {
        DigOrder x = new DigOrder();
        x.unit(1);
        x.unit(3);
        x.tray(1, 0, 0);
        x.tray(0, 0, 0);
        x.tray(0, 1, 0);
        x.set(0, 0, 3);
        due.is("its kind as held", x.held(1, 0, 1), 1);
        due.is("the unit", x.held(1, 0, 0), 0);
        due.is("in another place", x.held(0, 1, 1), 1);
        x.tray(0, 1, 0);
        due.is("held anew", x.held(0, 1, 1), 3);
        due.is("held as it was", x.held(0, 0, 1), 1);
        due.is("a wall now", x.tray(2, 0, 0), -5);
        due.is("no cut any more", x.tray(1, 0, 0), -12);
        due.is("nothing", x.held(2, 3, 0), -5);
        due.is("no kind of nothing", x.held(2, 3, 1), -5);
        due.is("tray 3", x.held(3, 0, 0), DigOrder.NONE);
        due.is("tray -1", x.held(-1, 0, 0), DigOrder.NONE);
        due.is("what 2", x.held(0, 0, 2), DigOrder.NONE);
        due.is("what -1", x.held(0, 0, -1), DigOrder.NONE);
        due.is("place 4", x.held(0, 4, 0), -13);
        due.is("place -1", x.held(0, -1, 1), -13);
        due.is("none ahead of place", x.held(0, 4, 2), DigOrder.NONE);
    }
}
