/** Promises 8 to 12: below, cycle, level, idle, proof. */
public final class OrderTest {
    private static final Due due = new Due("OrderTest");

    public static void main(String[] args) {
        below();
        cycle();
        shortestCycle();
        level();
        idle();
        proofCycle();
        proofFill();
        proofPhases();
        proofBounds();
        proofOrder();
        due.end();
    }

    private static void below() {
        DigOrder x = Due.withUnits(4);
        x.tie(0, 1);
        x.tie(1, 2);
        x.tie(0, 2);
        x.tie(3, 2);
        due.is("lies above", x.below(0, 0), 6);
        due.is("reaches", x.below(0, 1), 6);
        due.is("reduced", x.below(0, 2), 2);
        due.is("lie above it", x.below(2, 3), 11);
        due.is("reach it", x.below(2, 4), 11);
        due.is("directly above 1", x.below(1, 3), 1);
        x.untie(0, 2);
        due.is("above 2 now", x.below(2, 3), 10);
        due.is("reach 2 now", x.below(2, 4), 11);
        x.tie(2, 0);
        due.is("reaches itself", x.below(0, 1), 7);
        due.is("reduced with a cycle", x.below(3, 2), 4);
        due.is("what 5", x.below(0, 5), DigOrder.NONE);
        due.is("what -1", x.below(0, -1), DigOrder.NONE);
        due.is("no unit", x.below(4, 0), DigOrder.NONE);
        due.is("unit -1", x.below(-1, 0), DigOrder.NONE);
    }

    private static void cycleIs(DigOrder x, int... units) {
        due.is("cycle(-1)", x.cycle(-1), units.length);
        for (int i = 0; i < units.length; i++) {
            due.is("cycle(" + i + ")", x.cycle(i), units[i]);
        }
        due.is("cycle behind its end", x.cycle(units.length), -5);
        due.is("cycle far behind its end", x.cycle(Integer.MAX_VALUE), -5);
    }

    private static void cycle() {
        DigOrder x = Due.withUnits(12);
        cycleIs(x);
        due.is("cycle(-2)", x.cycle(-2), DigOrder.NONE);
        x.tie(5, 4);
        x.tie(4, 5);
        cycleIs(x, 4, 5);
        x.tie(0, 4);
        cycleIs(x, 4, 5);
        x.tie(3, 7);
        x.tie(7, 9);
        x.tie(9, 3);
        cycleIs(x, 3, 7, 9);
        for (int u = 0; u < 11; u++) {
            x.tie(u, u + 1);
        }
        x.tie(11, 0);
        cycleIs(x, 0, 1, 2, 3, 7, 9, 10, 11);
    }

    private static void shortestCycle() {
        DigOrder x = Due.withUnits(7);
        x.tie(1, 5);
        x.tie(5, 6);
        x.tie(6, 1);
        cycleIs(x, 1, 5, 6);
        x.tie(5, 3);
        x.tie(3, 1);
        cycleIs(x, 1, 5, 3);
        x.tie(1, 4);
        x.tie(4, 6);
        cycleIs(x, 1, 4, 6);
        x.tie(1, 2);
        x.tie(2, 0);
        x.tie(2, 3);
        cycleIs(x, 1, 2, 3);
        x.tie(6, 5);
        cycleIs(x, 1, 2, 3);
        x.tie(5, 1);
        cycleIs(x, 1, 5);
    }

    private static void level() {
        DigOrder x = Due.withUnits(5);
        x.tie(0, 4);
        x.tie(0, 1);
        x.tie(1, 2);
        x.tie(2, 4);
        int[] want = {3, 2, 1, 0, 0};
        for (int u = 0; u < 5; u++) {
            due.is("level(" + u + ")", x.level(u), want[u]);
        }
        due.is("level of none", x.level(5), DigOrder.NONE);
        due.is("level(-1)", x.level(-1), DigOrder.NONE);
        x.tie(4, 2);
        due.is("level with a cycle", x.level(3), DigOrder.STATE);
        due.is("none ahead of state", x.level(5), DigOrder.NONE);
    }

    private static void idle() {
        DigOrder x = Due.withUnits(4);
        x.tie(0, 3);
        x.tie(0, 1);
        x.tie(1, 2);
        x.tie(0, 2);
        x.tie(2, 3);
        x.tie(1, 3);
        due.is("idle(0)", x.idle(0), 3);
        due.is("idle(1)", x.idle(1), 2);
        due.is("idle(2)", x.idle(2), 103);
        due.is("idle(3)", x.idle(3), -5);
        due.is("idle(far)", x.idle(Integer.MAX_VALUE), -5);
        due.is("idle(-1)", x.idle(-1), DigOrder.NONE);
        due.is("told(2)", x.told(2), 3);
        x.tie(3, 0);
        due.is("idle(0) with a cycle", x.idle(0), -5);
    }

    private static void proofIs(String when, DigOrder x, int... numbers) {
        for (int k = 0; k < numbers.length; k++) {
            due.is(when + ": proof(" + k + ")", x.proof(k), numbers[k]);
        }
        for (int k = numbers.length; k < 5; k++) {
            due.is(when + ": proof(" + k + ")", x.proof(k), -5);
        }
        due.is(when + ": proof(-1)", x.proof(-1), DigOrder.NONE);
    }

    private static void proofCycle() {
        DigOrder x = Due.withUnits(4);
        proofIs("all well", x, 0);
        x.tie(3, 2);
        x.tie(2, 1);
        x.tie(1, 3);
        proofIs("a cycle", x, 1, 1, 3);
    }

    private static void proofFill() {
        DigOrder x = Due.withUnits(5);
        x.set(3, 0, 5);
        x.set(2, 0, 2);
        proofIs("bare fills", x, 2, 2);
        x.tie(2, 4);
        proofIs("above a layer", x, 2, 2);
        x.set(4, 0, 1);
        proofIs("above a cut", x, 2, 3);
        x.tie(3, 4);
        proofIs("both above the cut", x, 0);
        x.set(4, 0, 4);
        proofIs("both above a pit", x, 0);
        x.tie(2, 1);
        x.tie(1, 4);
        proofIs("only round about above the pit", x, 2, 2);
        x.set(1, 0, 3);
        proofIs("a wall is no cut", x, 2, 2);
        DigOrder y = Due.withUnits(12);
        y.set(0, 1, 2);
        proofIs("twelve layers", y, 0);
        y.set(11, 0, 2);
        y.tie(11, 0);
        proofIs("above a layer alone", y, 2, 11);
        y.set(0, 0, 4);
        proofIs("above a pit", y, 0);
        y.set(0, 0, 5);
        proofIs("the least", y, 2, 0);
    }

    private static void proofPhases() {
        DigOrder x = Due.withUnits(6);
        x.tie(5, 3);
        x.tie(3, 2);
        x.tie(2, 0);
        x.tie(5, 1);
        x.tie(1, 0);
        x.set(5, 4, 1);
        x.set(2, 4, 1);
        x.set(3, 4, 4);
        proofIs("one phase within the other", x, 3, 14, 503);
        x.set(1, 4, 4);
        x.set(0, 4, 1);
        proofIs("the least that is reached", x, 3, 14, 501);
        x.set(4, 4, 0);
        x.tie(4, 5);
        proofIs("one way alone is no fault", x, 3, 14, 501);
        x.set(0, 4, 0);
        proofIs("the first by p", x, 3, 1, 402);
        x.set(0, 4, -1);
        x.set(2, 4, -1);
        proofIs("none left", x, 0);
    }

    private static void proofBounds() {
        DigOrder x = Due.withUnits(3);
        x.tie(0, 1);
        x.set(1, 2, 900);
        x.set(0, 3, 899);
        proofIs("crossing by a tie", x, 4, 0, 1);
        x.set(0, 3, 900);
        proofIs("touching", x, 0);
        x.set(2, 2, 2000);
        x.set(2, 3, 0);
        proofIs("from above to", x, 4, 2, 2000);
    }

    private static void proofOrder() {
        DigOrder x = Due.withUnits(3);
        x.set(1, 2, 2000);
        x.set(1, 3, 0);
        proofIs("4 alone", x, 4, 1, 2000);
        x.set(0, 4, 2);
        x.set(1, 4, 3);
        x.set(2, 4, 2);
        x.tie(0, 1);
        x.tie(1, 2);
        proofIs("3 ahead of 4", x, 3, 23, 1);
        x.set(2, 0, 2);
        proofIs("2 ahead of 3", x, 2, 2);
        x.tie(2, 0);
        proofIs("1 ahead of 2", x, 1, 0, 3);
    }
}
