/** Promises 1 to 7: a new object, unit, set, of, tie, untie, told. */
public final class UnitsTest {
    private static final Due due = new Due("UnitsTest");

    public static void main(String[] args) {
        newObject();
        constants();
        unit();
        set();
        of();
        tie();
        tieFull();
        untie();
        told();
        due.end();
    }

    private static void newObject() {
        DigOrder x = new DigOrder();
        for (int what = 0; what <= 6; what++) {
            due.is("told(" + what + ") of a new object", x.told(what), 0);
        }
        for (int what = 0; what <= 3; what++) {
            due.is("count(" + what + ") of a new object", x.count(what), 0);
        }
        for (int tray = 0; tray < 3; tray++) {
            for (int place = 0; place < 4; place++) {
                due.is("held of a new object", x.held(tray, place, 0), -5);
            }
        }
        for (int tape = 0; tape < 6; tape++) {
            due.is("item of a new object", x.item(tape, 0, 1), -11);
        }
        due.is("of(0, 0) of a new object", x.of(0, 0), DigOrder.NONE);
    }

    private static void constants() {
        due.is("NONE", DigOrder.NONE, -1);
        due.is("BAD", DigOrder.BAD, -2);
        due.is("STATE", DigOrder.STATE, -3);
        due.is("FULL", DigOrder.FULL, -4);
        due.is("NO", DigOrder.NO, Long.MIN_VALUE);
    }

    private static void unit() {
        DigOrder x = new DigOrder();
        due.is("unit(-1)", x.unit(-1), DigOrder.BAD);
        due.is("unit(6)", x.unit(6), DigOrder.BAD);
        due.is("unit(least int)", x.unit(Integer.MIN_VALUE), DigOrder.BAD);
        for (int u = 0; u < 12; u++) {
            due.is("unit", x.unit(u % 6), u);
            due.is("its kind", x.of(u, 0), u % 6);
        }
        due.is("a thirteenth", x.unit(0), DigOrder.FULL);
        due.is("a thirteenth of no kind", x.unit(6), DigOrder.BAD);
        due.is("told(0)", x.told(0), 12);
    }

    private static void set() {
        DigOrder x = Due.withUnits(2);
        due.is("set kind", x.set(1, 0, 5), 0);
        due.is("set kind again", x.set(1, 0, 0), 5);
        due.is("set thick", x.set(1, 1, 0), 1);
        due.is("set thick again", x.set(1, 1, 99), 0);
        due.is("set from", x.set(1, 2, 2000), 0);
        due.is("set to", x.set(1, 3, 0), 2000);
        due.is("set phase", x.set(1, 4, 5), -5);
        due.is("set phase again", x.set(1, 4, 0), 5);
        due.is("set no phase", x.set(1, 4, -1), 0);
        due.is("set no phase again", x.set(1, 4, -1), -5);
        int[][] bad = {{0, -1}, {0, 6}, {1, -1}, {1, 100}, {2, -1}, {2, 2001}, {3, -1}, {3, 2001}, {4, -2}, {4, 6},
            {1, Integer.MIN_VALUE}, {2, Integer.MAX_VALUE}};
        for (int[] b : bad) {
            int was = x.of(1, b[0]);
            due.is("set bad " + b[0] + " " + b[1], x.set(1, b[0], b[1]), DigOrder.BAD);
            due.is("it stays", x.of(1, b[0]), was);
        }
        due.is("set of no unit", x.set(2, 0, 0), DigOrder.NONE);
        due.is("set of unit -1", x.set(-1, 0, 0), DigOrder.NONE);
        due.is("set of no what", x.set(0, 5, 0), DigOrder.NONE);
        due.is("set of what -1", x.set(0, -1, 0), DigOrder.NONE);
        due.is("none ahead of bad", x.set(2, 1, 100), DigOrder.NONE);
        due.is("what ahead of bad", x.set(0, 9, 5000), DigOrder.NONE);
        due.is("the other unit stays", x.of(0, 1), 1);
    }

    private static void of() {
        DigOrder x = Due.withUnits(1);
        int[] first = {0, 1, 0, 2000, -5, 0};
        for (int what = 0; what < 6; what++) {
            due.is("of(0, " + what + ") at first", x.of(0, what), first[what]);
        }
        x.dig(0);
        due.is("dug", x.of(0, 5), 1);
        due.is("of no what", x.of(0, 6), DigOrder.NONE);
        due.is("of what -1", x.of(0, -1), DigOrder.NONE);
        due.is("of no unit", x.of(1, 0), DigOrder.NONE);
        due.is("of unit -1", x.of(-1, 0), DigOrder.NONE);
    }

    private static void tie() {
        DigOrder x = Due.withUnits(3);
        due.is("tie(0, 1)", x.tie(0, 1), 1);
        due.is("tie(1, 0)", x.tie(1, 0), 2);
        due.is("tie(0, 1) again", x.tie(0, 1), DigOrder.STATE);
        due.is("tie(2, 2)", x.tie(2, 2), DigOrder.NONE);
        due.is("tie(0, 3)", x.tie(0, 3), DigOrder.NONE);
        due.is("tie(-1, 0)", x.tie(-1, 0), DigOrder.NONE);
        due.is("tie(far)", x.tie(Integer.MAX_VALUE, Integer.MIN_VALUE), DigOrder.NONE);
        due.is("told(1)", x.told(1), 2);
        x.untie(1, 0);
        x.dig(0);
        due.is("a tie on what is dug", x.tie(2, 0), 2);
        due.is("it stays dug", x.of(0, 5), 1);
    }

    private static void tieFull() {
        DigOrder x = Due.withUnits(12);
        int ties = 0;
        for (int a = 0; a < 12 && ties < 40; a++) {
            for (int b = a + 1; b < 12 && ties < 40; b++) {
                ties++;
                due.is("tie", x.tie(a, b), ties);
            }
        }
        due.is("a tie too many", x.tie(11, 0), DigOrder.FULL);
        due.is("state ahead of full", x.tie(0, 1), DigOrder.STATE);
        due.is("none ahead of full", x.tie(0, 12), DigOrder.NONE);
        due.is("untie", x.untie(0, 1), 39);
        due.is("tie once more", x.tie(11, 0), 40);
    }

    private static void untie() {
        DigOrder x = Due.withUnits(4);
        x.tie(0, 1);
        x.tie(1, 2);
        x.tie(2, 3);
        due.is("untie(1, 0)", x.untie(1, 0), DigOrder.STATE);
        due.is("untie(1, 1)", x.untie(1, 1), DigOrder.NONE);
        due.is("untie(1, 4)", x.untie(1, 4), DigOrder.NONE);
        due.is("untie(-1, 1)", x.untie(-1, 1), DigOrder.NONE);
        due.is("untie(0, 1)", x.untie(0, 1), 2);
        due.is("untie(0, 1) again", x.untie(0, 1), DigOrder.STATE);
        due.is("tie(0, 1)", x.tie(0, 1), 3);
        due.is("the first that fits is the eldest", x.fits(1), 102);
        due.is("below", x.below(0, 1), 14);
    }

    private static void told() {
        DigOrder x = Due.withUnits(5);
        x.tie(0, 1);
        x.tie(1, 2);
        x.tie(0, 2);
        x.set(1, 4, 0);
        x.set(3, 4, 5);
        x.set(4, 4, 5);
        x.dig(0);
        int[] want = {5, 3, 2, 3, 0, 1, 33};
        for (int what = 0; what < 7; what++) {
            due.is("told(" + what + ")", x.told(what), want[what]);
        }
        x.tie(2, 0);
        int[] ring = {5, 4, 4, -5, 3, 1, 33};
        for (int what = 0; what < 7; what++) {
            due.is("told(" + what + ") with a cycle", x.told(what), ring[what]);
        }
        due.is("told(7)", x.told(7), DigOrder.NONE);
        due.is("told(-1)", x.told(-1), DigOrder.NONE);
        due.is("levels of units alone", Due.withUnits(3).told(3), 1);
    }
}
