/** Promises 13 to 18: over, rank, bounds, middle, rate, age. */
public final class PhasesTest {
    private static final Due due = new Due("PhasesTest");

    public static void main(String[] args) {
        over();
        rank();
        rankOnRing();
        bounds();
        middle();
        rate();
        age();
        due.end();
    }

    private static void over() {
        DigOrder x = Due.withUnits(4);
        x.set(0, 4, 0);
        x.set(2, 4, 5);
        x.tie(0, 1);
        due.is("not yet", x.over(0, 5), 0);
        x.tie(1, 2);
        due.is("over by a chain", x.over(0, 5), 1);
        due.is("not the other way", x.over(5, 0), 0);
        due.is("phases that none has", x.over(3, 4), 0);
        x.set(3, 4, 0);
        x.tie(2, 3);
        due.is("both ways", x.over(0, 5), 0);
        due.is("both ways back", x.over(5, 0), 0);
        x.set(0, 4, -1);
        x.tie(3, 0);
        due.is("a cycle, both ways", x.over(5, 0), 0);
        x.untie(3, 0);
        x.tie(2, 1);
        due.is("with a cycle, one way", x.over(5, 0), 1);
        due.is("over(0, 0)", x.over(0, 0), DigOrder.NONE);
        due.is("over(-1, 0)", x.over(-1, 0), DigOrder.NONE);
        due.is("over(0, 6)", x.over(0, 6), DigOrder.NONE);
        due.is("over(6, 6)", x.over(6, 6), DigOrder.NONE);
    }

    private static void rank() {
        DigOrder x = Due.withUnits(6);
        for (int u = 0; u < 6; u++) {
            x.set(u, 4, 5 - u);
        }
        for (int p = 0; p < 6; p++) {
            due.is("rank without ties", x.rank(p), 0);
        }
        x.tie(0, 1);
        x.tie(1, 2);
        x.tie(3, 4);
        due.is("rank(5)", x.rank(5), 2);
        due.is("rank(4)", x.rank(4), 1);
        due.is("rank(3)", x.rank(3), 0);
        due.is("rank(2)", x.rank(2), 1);
        due.is("rank(-1)", x.rank(-1), DigOrder.NONE);
        due.is("rank(6)", x.rank(6), DigOrder.NONE);
        DigOrder y = Due.withUnits(4);
        y.set(0, 4, 0);
        y.set(1, 4, 1);
        y.set(2, 4, 1);
        y.set(3, 4, 2);
        y.tie(0, 1);
        y.tie(2, 3);
        due.is("over 2 by a chain of phases alone", y.over(0, 2), 0);
        due.is("rank by that chain", y.rank(0), 2);
    }

    /** 0 over 1 over 2 over 0, by units that no chain of ties joins. */
    private static void rankOnRing() {
        DigOrder x = Due.withUnits(8);
        int[] phase = {0, 1, 1, 2, 2, 0, 2, 4};
        for (int u = 0; u < 8; u++) {
            x.set(u, 4, phase[u]);
        }
        x.tie(0, 1);
        x.tie(2, 3);
        x.tie(4, 5);
        x.tie(6, 7);
        due.is("over(0, 1)", x.over(0, 1), 1);
        due.is("over(1, 2)", x.over(1, 2), 1);
        due.is("over(2, 0)", x.over(2, 0), 1);
        due.is("rank(0)", x.rank(0), 3);
        due.is("rank(1)", x.rank(1), 3);
        due.is("rank(2)", x.rank(2), 3);
        due.is("rank(4)", x.rank(4), 0);
    }

    private static void bounds() {
        DigOrder x = Due.withUnits(4);
        x.tie(0, 1);
        x.tie(1, 2);
        x.set(2, 2, 300);
        x.set(0, 3, 1200);
        x.set(1, 3, 1500);
        x.set(1, 2, 100);
        due.is("earliest goes up", x.bounds(0, 0), 300);
        due.is("latest goes down", x.bounds(2, 1), 1200);
        due.is("latest of the top", x.bounds(0, 1), 1200);
        due.is("earliest of 2", x.bounds(2, 0), 300);
        due.is("earliest of 1", x.bounds(1, 0), 300);
        due.is("one alone", x.bounds(3, 0), 0);
        due.is("one alone, latest", x.bounds(3, 1), 2000);
        due.is("what 2", x.bounds(0, 2), DigOrder.NONE);
        due.is("what -1", x.bounds(0, -1), DigOrder.NONE);
        due.is("no unit", x.bounds(4, 0), DigOrder.NONE);
        x.tie(2, 0);
        due.is("a cycle", x.bounds(3, 0), DigOrder.STATE);
        due.is("none ahead of it", x.bounds(0, 2), DigOrder.NONE);
    }

    private static void middle() {
        DigOrder x = Due.withUnits(2);
        due.is("1000.0", x.middle(0), Double.doubleToRawLongBits(1000.0));
        x.set(0, 2, 1);
        due.is("1000.5", x.middle(0), Double.doubleToRawLongBits(1000.5));
        x.set(0, 3, 0);
        due.is("0.5", x.middle(0), Double.doubleToRawLongBits(0.5));
        x.set(0, 2, 0);
        due.is("0.0", x.middle(0), 0);
        for (int from = 0; from <= 2000; from++) {
            x.set(1, 2, from);
            x.set(1, 3, from * 7 % 2001);
            double want = ((double) from + (double) (from * 7 % 2001)) / 2.0;
            due.is("middle of " + from, x.middle(1), Double.doubleToRawLongBits(want));
        }
        due.is("no unit", x.middle(2), DigOrder.NO);
        due.is("unit -1", x.middle(-1), DigOrder.NO);
        x.tie(0, 1);
        x.tie(1, 0);
        due.is("a cycle", x.middle(0), DigOrder.NO);
    }

    private static void rate() {
        DigOrder x = Due.withUnits(2);
        due.is("1 over 2001", x.rate(0), Float.floatToRawIntBits(1.0f / 2001.0f));
        for (int thick = 0; thick <= 99; thick++) {
            x.set(0, 1, thick);
            for (int to = 1000; to <= 1200; to++) {
                x.set(0, 2, 1000);
                x.set(0, 3, to);
                float want = (float) thick / (float) (to - 1000 + 1);
                due.is(thick + " over " + (to - 999), x.rate(0), Float.floatToRawIntBits(want));
            }
        }
        x.set(0, 3, 999);
        due.is("crossing", x.rate(0), 0);
        x.set(0, 3, 0);
        due.is("crossing far", x.rate(0), 0);
        due.is("no unit", x.rate(2), DigOrder.NONE);
        due.is("unit -1", x.rate(-1), DigOrder.NONE);
        x.tie(0, 1);
        x.tie(1, 0);
        due.is("a cycle", x.rate(1), DigOrder.STATE);
        due.is("none ahead of state", x.rate(2), DigOrder.NONE);
    }

    private static void ageIs(String when, DigOrder x, double want) {
        due.is(when + ", its bits", x.age(3, 0), Double.doubleToRawLongBits(want));
        due.is(when + ", round", x.age(3, 1), (long) (want + 0.5));
    }

    private static void age() {
        DigOrder x = Due.withUnits(3);
        due.is("none has it", x.age(3, 0), DigOrder.NO);
        x.set(0, 4, 3);
        ageIs("one of thickness 1", x, 1000.0);
        x.set(2, 4, 3);
        ageIs("two alike", x, 1000.0);
        x.set(0, 2, 3);
        x.set(0, 1, 7);
        ageIs("1001.5 times 7 and 1000", x, (1001.5 * 7.0 + 1000.0) / 8.0);
        x.set(2, 1, 99);
        x.set(2, 3, 1);
        ageIs("1001.5 times 7 and 0.5 times 99", x, (1001.5 * 7.0 + 0.5 * 99.0) / 106.0);
        x.set(0, 3, 0);
        x.set(0, 2, 0);
        x.set(2, 1, 2);
        ageIs("0.0 times 7 and 0.5 times 2", x, 1.0 / 9.0);
        x.set(0, 1, 99);
        x.set(2, 1, 1);
        ageIs("a small one", x, 0.5 / 100.0);
        x.set(0, 1, 0);
        ageIs("one half", x, 0.5);
        x.set(2, 1, 0);
        ageIs("no thickness", x, 0.0);
        due.is("phase 6", x.age(6, 0), DigOrder.NO);
        due.is("phase -1", x.age(-1, 0), DigOrder.NO);
        due.is("what 2", x.age(3, 2), DigOrder.NO);
        due.is("what -1", x.age(3, -1), DigOrder.NO);
        x.tie(0, 1);
        x.tie(1, 0);
        due.is("a cycle", x.age(3, 1), DigOrder.NO);
    }
}
