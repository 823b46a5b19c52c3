/** "Terms", 2: in deed, in thought, phases in order, trays; a method for each boundary it names. */
public final class TermsTwoTest {
    private static final Due due = new Due("TermsTwoTest");

    public static void main(String[] args) {
        digBelowEleven();
        digBelowDug();
        digAll();
        layBackAll();
        ordersNoneWithCycle();
        ordersNoneLeft();
        ordersByNumbers();
        orderEnds();
        orderOfTwelve();
        ordersBehindChanges();
        overOneWay();
        overWithCycle();
        overEnds();
        rankOfSix();
        rankByPairs();
        rankOnRing();
        trayTakes();
        trayPlaces();
        trayHoldsInSeveral();
        trayKindAsHeld();
        due.end();
    }

    /** "a UNIT that isn't DUG may be, if all that lie ABOVE it are". */
    private static void digBelowEleven() {
        DigOrder x = Due.withUnits(12);
        for (int u = 0; u < 11; u++) {
            x.tie(u, 11);
        }
        for (int u = 0; u < 11; u++) {
            due.is("not all above it are", x.dig(11), -3);
            due.is("of(11, 5)", x.of(11, 5), 0);
            due.is("dig(" + u + ")", x.dig(u), u + 1);
            due.is("again", x.dig(u), -3);
        }
        due.is("all above it are", x.dig(11), 12);
        due.is("of(11, 5)", x.of(11, 5), 1);
        due.is("again", x.dig(11), -3);
        due.is("how many", x.told(5), 12);
    }

    /** What lies above what lies above counts for nothing, if that is dug (a tie told of what is dug). */
    private static void digBelowDug() {
        DigOrder x = Due.withUnits(3);
        due.is("dig(1)", x.dig(1), 1);
        due.is("a tie from above", x.tie(0, 1), 1);
        due.is("a tie down", x.tie(1, 2), 2);
        due.is("it stays dug", x.of(1, 5), 1);
        due.is("0 holds 1 alone", x.orders(), 2);
        due.is("dig(2)", x.dig(2), 2);
        due.is("laid back", x.lay(), 2);
        due.is("laid back", x.lay(), 1);
        due.is("now 0 holds it", x.dig(1), -3);
        due.is("and it holds 2", x.dig(2), -3);
        DigOrder y = Due.withUnits(3);
        y.dig(0);
        y.tie(0, 1);
        y.tie(1, 0);
        due.is("a cycle through what is dug", y.dig(1), 2);
        due.is("no order with a cycle", y.orders(), 0);
    }

    /** Twelve dug in an order that their numbers don't tell. */
    private static void digAll() {
        DigOrder x = Due.withUnits(12);
        for (int k = 0; k < 12; k++) {
            due.is("not so many yet", x.dug(k), -5);
            due.is("dig", x.dig(k * 5 % 12), k + 1);
            due.is("the first stays", x.dug(0), 0);
            due.is("the last", x.dug(k), k * 5 % 12);
        }
        due.is("dug(12)", x.dug(12), -5);
        due.is("dug at the very end", x.dug(Integer.MAX_VALUE), -5);
        due.is("dug(-1)", x.dug(-1), -1);
        due.is("dug(least)", x.dug(Integer.MIN_VALUE), -1);
    }

    /** "What was DUG last can be laid back." */
    private static void layBackAll() {
        DigOrder x = Due.withUnits(12);
        due.is("none is dug", x.lay(), -3);
        for (int k = 0; k < 12; k++) {
            x.dig(k * 7 % 12);
        }
        for (int k = 11; k >= 0; k--) {
            due.is("lay", x.lay(), k * 7 % 12);
            due.is("it isn't dug", x.of(k * 7 % 12, 5), 0);
            due.is("how many", x.told(5), k);
        }
        due.is("none is dug", x.lay(), -3);
        due.is("dug(0)", x.dug(0), -5);
        due.is("dig once more", x.dig(3), 1);
    }

    /** "(none with a CYCLE, even if all of it is DUG". */
    private static void ordersNoneWithCycle() {
        DigOrder x = Due.withUnits(4);
        x.dig(0);
        x.dig(1);
        x.tie(0, 1);
        due.is("without a cycle", x.orders(), 2);
        x.tie(1, 0);
        due.is("all of it is dug", x.orders(), 0);
        due.is("order(0, 0)", x.order(0, 0), -1);
        due.is("after", x.after(0), 0);
        x.dig(2);
        x.dig(3);
        due.is("everything is dug", x.orders(), 0);
        x.untie(0, 1);
        due.is("no cycle any more", x.orders(), 1);
        DigOrder y = Due.withUnits(3);
        y.tie(1, 2);
        y.tie(2, 1);
        due.is("none of it is dug", y.orders(), 0);
    }

    /** "one, if none is left)". */
    private static void ordersNoneLeft() {
        DigOrder x = new DigOrder();
        due.is("no units", x.orders(), 1);
        due.is("no unit of it", x.order(0, 0), -1);
        x.unit(0);
        due.is("one unit", x.orders(), 1);
        due.is("it", x.order(0, 0), 0);
        due.is("no second one", x.order(0, 1), -1);
        due.is("no second order", x.order(1, 0), -1);
        x.dig(0);
        due.is("it is dug", x.orders(), 1);
        due.is("none is left of it", x.order(0, 0), -1);
        x.unit(0);
        due.is("another is left", x.order(0, 0), 1);
        due.is("no second one", x.order(0, 1), -1);
    }

    /** "how many, the k-th by numbers (the lesser ahead)": all 24 of four, then those that ties leave. */
    private static void ordersByNumbers() {
        DigOrder x = Due.withUnits(4);
        int k = 0;
        for (int word = 0; word < 256; word++) {
            int[] row = {word >> 6, word >> 4 & 3, word >> 2 & 3, word & 3};
            if ((1 << row[0] | 1 << row[1] | 1 << row[2] | 1 << row[3]) == 15) {
                for (int i = 0; i < 4; i++) {
                    due.is("order(" + k + ", " + i + ")", x.order(k, i), row[i]);
                }
                k++;
            }
        }
        due.is("orders", x.orders(), k);
        x.tie(3, 1);
        due.is("half of them", x.orders(), 12);
        int[] first = {0, 2, 3, 1};
        int[] last = {3, 2, 1, 0};
        for (int i = 0; i < 4; i++) {
            due.is("the first", x.order(0, i), first[i]);
            due.is("the last", x.order(11, i), last[i]);
        }
    }

    private static void orderEnds() {
        DigOrder x = Due.withUnits(4);
        x.tie(0, 1);
        x.dig(3);
        due.is("orders", x.orders(), 3);
        due.is("order(2, 2)", x.order(2, 2), 1);
        long[] noOrders = {-1, 3, 4, -3, 1L << 31, 1L << 32, (1L << 32) + 1, -(1L << 32), Long.MAX_VALUE, Long.MIN_VALUE};
        for (long k : noOrders) {
            due.is("order(" + k + ", 0)", x.order(k, 0), -1);
            due.is("order(" + k + ", 2)", x.order(k, 2), -1);
            due.is("order(" + k + ", 3)", x.order(k, 3), -1);
        }
        for (int i : new int[] {-1, 3, 4, 11, 12, Integer.MAX_VALUE, Integer.MIN_VALUE}) {
            due.is("order(0, " + i + ")", x.order(0, i), -1);
            due.is("order(2, " + i + ")", x.order(2, i), -1);
        }
    }

    private static void orderOfTwelve() {
        DigOrder x = Due.withUnits(12);
        due.is("12!", x.orders(), 479001600L);
        due.is("order(0, 0)", x.order(0, 0), 0);
        due.is("order(0, 11)", x.order(0, 11), 11);
        due.is("the first half's last", x.order(239500799L, 0), 5);
        due.is("the second half's first", x.order(239500800L, 0), 6);
        due.is("the last", x.order(479001599L, 0), 11);
        due.is("the last, at its end", x.order(479001599L, 11), 0);
        due.is("one too many", x.order(479001600L, 0), -1);
        due.is("behind its end", x.order(0, 12), -1);
    }

    /** What was counted before must not be told when ties, units or what is dug have changed. */
    private static void ordersBehindChanges() {
        DigOrder x = Due.withUnits(3);
        due.is("three", x.orders(), 6);
        x.tie(0, 1);
        due.is("a tie", x.orders(), 3);
        x.untie(0, 1);
        x.tie(1, 0);
        due.is("the other way", x.order(0, 0), 1);
        x.unit(0);
        due.is("a unit more", x.orders(), 12);
        x.event(0, 1);
        due.is("after", x.after(0), 6);
        due.is("in deed", x.order(0, 0), 1);
        x.dig(1);
        due.is("dug", x.order(0, 0), 0);
        x.lay();
        due.is("laid back", x.order(11, 0), 3);
        due.is("laid back, at its end", x.order(11, 3), 0);
        x.untie(1, 0);
        due.is("no tie", x.order(0, 0), 0);
    }

    /** "p is OVER q, if one of p REACHES one of q and none of q one of p". */
    private static void overOneWay() {
        DigOrder x = Due.withUnits(6);
        x.set(0, 4, 3);
        x.set(5, 4, 3);
        x.set(2, 4, 2);
        x.set(3, 4, 2);
        due.is("none reaches", x.over(3, 2), 0);
        x.tie(5, 1);
        x.tie(1, 3);
        due.is("one of p reaches one of q", x.over(3, 2), 1);
        due.is("not the other way", x.over(2, 3), 0);
        x.tie(2, 0);
        due.is("one of q reaches one of p", x.over(3, 2), 0);
        due.is("nor the other way", x.over(2, 3), 0);
        x.untie(5, 1);
        due.is("the other way alone", x.over(2, 3), 1);
        x.set(1, 4, 2);
        due.is("within a phase", x.over(3, 2), 0);
    }

    /** "(also with a CYCLE)". */
    private static void overWithCycle() {
        DigOrder x = Due.withUnits(5);
        x.set(0, 4, 0);
        x.set(1, 4, 1);
        x.set(3, 4, 3);
        x.tie(0, 1);
        x.tie(1, 2);
        x.tie(2, 1);
        x.tie(2, 3);
        due.is("into the cycle", x.over(0, 1), 1);
        due.is("through the cycle", x.over(0, 3), 1);
        due.is("out of the cycle", x.over(1, 3), 1);
        due.is("not back", x.over(3, 0), 0);
        due.is("rank", x.rank(0), 2);
        due.is("rank of one on it", x.rank(1), 1);
        x.set(2, 4, 2);
        due.is("both on the cycle", x.over(1, 2), 0);
        due.is("both on the cycle, back", x.over(2, 1), 0);
    }

    private static void overEnds() {
        DigOrder x = Due.withUnits(2);
        x.set(0, 4, 5);
        x.set(1, 4, 0);
        x.tie(0, 1);
        due.is("over(5, 0)", x.over(5, 0), 1);
        due.is("over(0, 5)", x.over(0, 5), 0);
        due.is("a phase that none has", x.over(4, 1), 0);
        due.is("over(5, 5)", x.over(5, 5), -1);
        due.is("over(5, 6)", x.over(5, 6), -1);
        due.is("over(6, 0)", x.over(6, 0), -1);
        due.is("over(5, -1)", x.over(5, -1), -1);
        due.is("over(5, 32)", x.over(5, 32), -1);
        due.is("rank(5)", x.rank(5), 1);
        due.is("rank(0)", x.rank(0), 0);
        due.is("rank of a phase that none has", x.rank(3), 0);
        due.is("rank(6)", x.rank(6), -1);
        due.is("rank(-1)", x.rank(-1), -1);
    }

    /** "RANK of a PHASE: how many others it is OVER": five at most. */
    private static void rankOfSix() {
        DigOrder x = Due.withUnits(6);
        for (int u = 0; u < 6; u++) {
            x.set(u, 4, u);
            x.tie(u, (u + 1) % 6 == 0 ? 6 : u + 1);
        }
        for (int p = 0; p < 6; p++) {
            due.is("rank(" + p + ")", x.rank(p), 5 - p);
        }
    }

    /** "by chains of OVER, too": each link is of two units of its own, up and down and to and fro. */
    private static void rankByPairs() {
        int[][] chains = {{0, 1, 2, 3, 4, 5}, {5, 4, 3, 2, 1, 0}, {3, 0, 5, 1, 4, 2}, {2, 4, 1, 5, 0, 3}};
        for (int[] chain : chains) {
            DigOrder x = Due.withUnits(10);
            for (int i = 0; i < 5; i++) {
                x.set(2 * i, 4, chain[i]);
                x.set(2 * i + 1, 4, chain[i + 1]);
                x.tie(2 * i, 2 * i + 1);
            }
            for (int i = 0; i < 6; i++) {
                due.is("rank(" + chain[i] + ")", x.rank(chain[i]), 5 - i);
            }
            due.is("no link from end to end", x.over(chain[0], chain[5]), 0);
            x.untie(4, 5);
            due.is("a link less", x.rank(chain[0]), 2);
        }
    }

    /** "RANK does not count the PHASE itself, also on a ring." */
    private static void rankOnRing() {
        DigOrder x = Due.withUnits(12);
        for (int p = 0; p < 6; p++) {
            x.set(2 * p, 4, p);
            x.set(2 * p + 1, 4, (p + 1) % 6);
            x.tie(2 * p, 2 * p + 1);
        }
        for (int p = 0; p < 6; p++) {
            due.is("over the next", x.over(p, (p + 1) % 6), 1);
            due.is("rank(" + p + ")", x.rank(p), 5);
        }
        x.untie(10, 11);
        due.is("no ring any more", x.rank(5), 0);
        due.is("the ring's first", x.rank(0), 5);
    }

    /** "TRAY 0 takes any, TRAY 1 CUTS and PITS, TRAY 2 WALLS". */
    private static void trayTakes() {
        DigOrder x = Due.withUnits(1);
        int[] byOne = {-12, -5, -12, -12, -5, -12};
        int[] byTwo = {-12, -12, -12, -5, -12, -12};
        for (int kind = 0; kind < 6; kind++) {
            x.set(0, 0, kind);
            due.is("tray 0, kind " + kind, x.tray(0, 0, 0), -5);
            due.is("tray 1, kind " + kind, x.tray(1, 0, 0), byOne[kind]);
            due.is("tray 2, kind " + kind, x.tray(2, 0, 0), byTwo[kind]);
            due.is("held by 1", x.held(1, 0, 1), byOne[kind] == -12 ? -5 : kind);
            due.is("held by 2", x.held(2, 0, 1), byTwo[kind] == -12 ? -5 : kind);
            for (int tray = 0; tray < 3; tray++) {
                x.tray(tray, 0, -1);
                due.is("nothing", x.held(tray, 0, 0), -5);
                due.is("no kind", x.held(tray, 0, 1), -5);
                due.is("nothing from nothing", x.tray(tray, 0, -1), -5);
            }
        }
    }

    /** "TRAYS 0 .. 2, of 4 places each that hold a UNIT or nothing (at first)". */
    private static void trayPlaces() {
        DigOrder x = Due.withUnits(12);
        for (int u = 0; u < 12; u++) {
            x.set(u, 0, u < 4 ? 0 : u < 8 ? 1 : 3);
            due.is("nothing at first", x.held(u / 4, u % 4, 0), -5);
            due.is("no kind at first", x.held(u / 4, u % 4, 1), -5);
            due.is("tray", x.tray(u / 4, u % 4, u), -5);
        }
        for (int u = 0; u < 12; u++) {
            due.is("held", x.held(u / 4, u % 4, 0), u);
            due.is("place 4", x.held(u / 4, 4, 0), -13);
            due.is("place -1", x.held(u / 4, -1, 0), -13);
            due.is("place 4", x.tray(u / 4, 4, u), -13);
            due.is("place -1", x.tray(u / 4, -1, u), -13);
        }
        due.is("tray 3", x.tray(3, 0, 0), -1);
        due.is("tray -1", x.tray(-1, 0, 0), -1);
        due.is("unit 12", x.tray(0, 0, 12), -1);
        due.is("unit -2", x.tray(0, 0, -2), -1);
        due.is("another one", x.tray(0, 3, 11), 3);
        due.is("the same", x.tray(0, 3, 11), 11);
    }

    /** "(one may be in several places)", and dug or not. */
    private static void trayHoldsInSeveral() {
        DigOrder x = Due.withUnits(1);
        x.set(0, 0, 1);
        for (int place = 0; place < 4; place++) {
            due.is("tray 0", x.tray(0, place, 0), -5);
            due.is("tray 1", x.tray(1, place, 0), -5);
        }
        x.dig(0);
        due.is("one goes", x.tray(1, 2, -1), 0);
        for (int place = 0; place < 4; place++) {
            due.is("held by 0", x.held(0, place, 0), 0);
            due.is("held by 1", x.held(1, place, 0), place == 2 ? -5 : 0);
        }
    }

    /** "What is held stays as it was held, when its KIND becomes another one: its KIND as held." */
    private static void trayKindAsHeld() {
        DigOrder x = Due.withUnits(2);
        x.set(0, 0, 4);
        x.tray(1, 3, 0);
        x.tray(0, 3, 0);
        x.set(0, 0, 5);
        due.is("by set()", x.held(1, 3, 1), 4);
        due.is("the unit stays", x.held(1, 3, 0), 0);
        due.is("it isn't taken any more", x.tray(1, 3, 0), -12);
        due.is("it stays then", x.held(1, 3, 1), 4);
        Due.say(x, "a cuts b");
        due.is("by words", x.of(0, 0), 1);
        due.is("as held", x.held(1, 3, 1), 4);
        due.is("as held by 0", x.held(0, 3, 1), 4);
        due.is("held anew", x.tray(1, 3, 0), 0);
        due.is("its kind now", x.held(1, 3, 1), 1);
        due.is("the other place's", x.held(0, 3, 1), 4);
    }
}
