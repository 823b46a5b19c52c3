/** "Terms", 1: the proof, bounds, middles, rates, ages; a method for each boundary it names. */
public final class ProofEdgeTest {
    private static final Due due = new Due("ProofEdgeTest");

    public static void main(String[] args) {
        noFault();
        fillKinds();
        fillByReduced();
        fillLeast();
        phasesEachWay();
        phasesFirst();
        phasesLeastUnits();
        crossingByOne();
        crossingAtEnds();
        faultsInOrder();
        boundsOfItself();
        boundsAlongTwelve();
        middleEnds();
        rateEnds();
        ageOfNoThickness();
        ageEnds();
        roundAtHalf();
        due.end();
    }

    private static void proofIs(String when, DigOrder x, int... numbers) {
        for (int k = 0; k < 4; k++) {
            due.is(when + ": proof(" + k + ")", x.proof(k), k < numbers.length ? numbers[k] : -5);
        }
        due.is(when + ": at the very end", x.proof(Integer.MAX_VALUE), -5);
        due.is(when + ": proof(-1)", x.proof(-1), -1);
    }

    private static void pair(DigOrder x, int a, int phaseOfA, int b, int phaseOfB) {
        x.tie(a, b);
        x.set(a, 4, phaseOfA);
        x.set(b, 4, phaseOfB);
    }

    /** "Else 0." */
    private static void noFault() {
        proofIs("no units", new DigOrder(), 0);
        proofIs("units alone", Due.withUnits(12), 0);
    }

    /** "a FILL (or one under it) that lies ABOVE no CUT, nor one under that". */
    private static void fillKinds() {
        for (int upper = 0; upper < 6; upper++) {
            for (int lower = 0; lower < 6; lower++) {
                DigOrder x = Due.withUnits(2);
                x.set(0, 0, upper);
                x.tie(0, 1);
                x.set(1, 0, lower);
                boolean bareUpper = (upper == 2 || upper == 5) && lower != 1 && lower != 4;
                boolean bareLower = lower == 2 || lower == 5;
                if (bareUpper || bareLower) {
                    proofIs(upper + " above " + lower, x, 2, bareUpper ? 0 : 1);
                } else {
                    proofIs(upper + " above " + lower, x, 0);
                }
            }
        }
        DigOrder y = new DigOrder();
        y.unit(1);
        y.unit(2);
        y.tie(0, 1);
        proofIs("a cut above a fill", y, 2, 1);
    }

    /** "by REDUCED": a cut that is reached round about is none right under it. */
    private static void fillByReduced() {
        DigOrder x = Due.withUnits(4);
        x.set(0, 0, 2);
        x.set(2, 0, 1);
        x.tie(0, 1);
        x.tie(1, 2);
        proofIs("reached alone", x, 2, 0);
        x.tie(0, 2);
        proofIs("tied, but round about", x, 2, 0);
        x.untie(1, 2);
        proofIs("right under it", x, 0);
        x.set(3, 0, 4);
        x.tie(2, 3);
        x.tie(0, 3);
        proofIs("a pit under the cut", x, 0);
        x.set(2, 0, 3);
        proofIs("a pit round about", x, 2, 0);
        x.set(1, 0, 1);
        proofIs("another cut right under it", x, 0);
    }

    /** "(CAUSE: the least such)", and there is no cause of that. */
    private static void fillLeast() {
        DigOrder x = Due.withUnits(12);
        x.set(11, 0, 5);
        proofIs("the last", x, 2, 11);
        x.set(7, 0, 2);
        proofIs("a lesser one", x, 2, 7);
        x.set(3, 0, 1);
        x.set(5, 0, 4);
        x.tie(7, 3);
        proofIs("on the first cut", x, 2, 11);
        x.tie(11, 5);
        proofIs("on the second cut", x, 0);
        x.untie(7, 3);
        proofIs("none any more", x, 2, 7);
    }

    /** "of which each has a UNIT that REACHES one of the other". */
    private static void phasesEachWay() {
        DigOrder x = Due.withUnits(12);
        pair(x, 11, 0, 10, 5);
        proofIs("one way", x, 0);
        pair(x, 9, 5, 8, 0);
        proofIs("each way", x, 3, 5, 1110);
        x.set(8, 4, 5);
        proofIs("within a phase", x, 0);
        x.set(8, 4, -1);
        proofIs("into none", x, 0);
        x.tie(8, 7);
        x.set(7, 4, 0);
        proofIs("by a chain through none", x, 3, 5, 1110);
        DigOrder y = Due.withUnits(3);
        y.tie(0, 1);
        y.tie(1, 2);
        proofIs("none is no phase", y, 0);
    }

    /** "p less than q", "the first by p, then q". */
    private static void phasesFirst() {
        DigOrder x = Due.withUnits(12);
        pair(x, 0, 4, 1, 5);
        pair(x, 2, 5, 3, 4);
        proofIs("4 and 5", x, 3, 45, 1);
        pair(x, 4, 5, 5, 1);
        pair(x, 6, 1, 7, 5);
        proofIs("1 and 5", x, 3, 15, 607);
        pair(x, 8, 2, 9, 1);
        pair(x, 10, 1, 11, 2);
        proofIs("1 and 2", x, 3, 12, 1011);
        x.set(10, 4, 0);
        x.set(11, 4, 5);
        x.set(2, 4, 5);
        x.set(3, 4, 0);
        proofIs("0 and 5 ahead of all", x, 3, 5, 1011);
    }

    /** "100 times the least UNIT of p that REACHES one of q, and the least one of q that it REACHES". */
    private static void phasesLeastUnits() {
        DigOrder x = Due.withUnits(8);
        pair(x, 5, 1, 7, 2);
        pair(x, 7, 2, 6, 1);
        x.set(0, 4, 1);
        x.set(1, 4, 2);
        proofIs("those that reach", x, 3, 12, 507);
        x.tie(5, 1);
        proofIs("a lesser one is reached", x, 3, 12, 501);
        x.tie(4, 7);
        proofIs("no phase", x, 3, 12, 501);
        x.set(4, 4, 1);
        proofIs("a lesser one reaches", x, 3, 12, 407);
        x.tie(0, 4);
        proofIs("by a chain", x, 3, 12, 7);
    }

    /** "BOUNDS of a UNIT cross (CAUSE: the least such; this: EARLIEST less LATEST)". */
    private static void crossingByOne() {
        DigOrder x = Due.withUnits(12);
        x.set(11, 2, 1000);
        x.set(11, 3, 1001);
        proofIs("apart", x, 0);
        x.set(11, 3, 1000);
        proofIs("alike", x, 0);
        due.is("after, none crosses", x.after(1), 0);
        x.set(11, 3, 999);
        proofIs("by one", x, 4, 11, 1);
        due.is("after, one crosses", x.after(1), 1);
        x.set(4, 2, 3);
        x.set(4, 3, 0);
        proofIs("the least", x, 4, 4, 3);
        due.is("after, two cross", x.after(1), 2);
    }

    private static void crossingAtEnds() {
        DigOrder x = Due.withUnits(2);
        x.set(1, 2, 2000);
        proofIs("2000 and 2000", x, 0);
        x.set(1, 3, 0);
        proofIs("2000 and 0", x, 4, 1, 2000);
        x.set(1, 2, 0);
        proofIs("0 and 0", x, 0);
        x.tie(0, 1);
        x.set(0, 2, 1);
        proofIs("what lies above it crosses nothing", x, 0);
        x.set(1, 2, 2000);
        x.set(1, 3, 2000);
        x.set(0, 3, 1999);
        proofIs("both, by the chain", x, 4, 0, 1);
        due.is("after, both cross", x.after(1), 2);
    }

    /** "its FAULT, the first of": with all of them, then with one less each time. */
    private static void faultsInOrder() {
        DigOrder x = Due.withUnits(10);
        x.set(9, 2, 1);
        x.set(9, 3, 0);
        pair(x, 4, 0, 5, 1);
        pair(x, 6, 1, 7, 0);
        x.set(8, 0, 2);
        x.tie(2, 3);
        x.tie(3, 2);
        proofIs("1 ahead of all", x, 1, 2, 2);
        x.untie(3, 2);
        proofIs("2 ahead of 3 and 4", x, 2, 8);
        x.set(8, 0, 3);
        proofIs("3 ahead of 4", x, 3, 1, 405);
        x.set(4, 4, -1);
        proofIs("4 alone", x, 4, 9, 1);
        x.set(9, 3, 1);
        proofIs("none", x, 0);
    }

    /** "EARLIEST: the greatest FROM of a UNIT and all it REACHES; LATEST: the least TO of a UNIT and all that REACH it." */
    private static void boundsOfItself() {
        DigOrder x = Due.withUnits(3);
        x.tie(0, 1);
        x.set(0, 2, 50);
        x.set(1, 2, 49);
        due.is("its own from is greater", x.bounds(0, 0), 50);
        x.set(1, 2, 51);
        due.is("the other one's is greater", x.bounds(0, 0), 51);
        due.is("from above counts for nothing", x.bounds(2, 0), 0);
        x.set(0, 2, 2000);
        due.is("nor does it go down", x.bounds(1, 0), 51);
        x.set(1, 3, 60);
        x.set(0, 3, 61);
        due.is("its own to is less", x.bounds(1, 1), 60);
        x.set(0, 3, 59);
        due.is("the other one's is less", x.bounds(1, 1), 59);
        x.set(1, 3, 0);
        due.is("nor does it go up", x.bounds(0, 1), 59);
    }

    private static void boundsAlongTwelve() {
        DigOrder x = Due.withUnits(12);
        for (int u = 11; u > 0; u--) {
            x.tie(u, u - 1);
        }
        x.set(0, 2, 2000);
        x.set(11, 3, 0);
        for (int u = 0; u < 12; u++) {
            due.is("earliest", x.bounds(u, 0), 2000);
            due.is("latest", x.bounds(u, 1), 0);
            due.is("rate", x.rate(u), 0);
            due.is("middle", x.middle(u), Double.doubleToRawLongBits(1000.0));
        }
        due.is("all cross", x.after(1), 12);
        x.untie(6, 5);
        due.is("none does", x.after(1), 0);
        due.is("above the cut", x.bounds(6, 0), 0);
        due.is("under the cut", x.bounds(5, 1), 2000);
    }

    /** "MIDDLE: the double of EARLIEST plus the double of LATEST, over 2.0": from 0.0 to 2000.0. */
    private static void middleEnds() {
        DigOrder x = Due.withUnits(1);
        int[][] years = {{0, 0}, {0, 1}, {1, 0}, {1, 1}, {0, 2}, {1, 2}, {2, 2}, {1999, 2000}, {2000, 1999}, {2000, 2000},
            {511, 512}, {512, 512}, {1023, 1024}, {1024, 1024}, {2000, 0}, {0, 2000}};
        for (int[] y : years) {
            x.set(0, 2, y[0]);
            x.set(0, 3, y[1]);
            due.is("middle of " + y[0] + " and " + y[1], x.middle(0), Double.doubleToRawLongBits((y[0] + y[1]) / 2.0));
        }
        due.is("0.0 has no bits", Double.doubleToRawLongBits(0.0), 0);
    }

    /** "RATE: the float of THICK over the float of (LATEST less EARLIEST, plus 1); 0.0f, if they cross". */
    private static void rateEnds() {
        DigOrder x = Due.withUnits(1);
        for (int thick : new int[] {0, 1, 2, 3, 98, 99}) {
            x.set(0, 1, thick);
            x.set(0, 2, 0);
            for (int to = 0; to <= 2000; to++) {
                x.set(0, 3, to);
                due.is(thick + " over " + (to + 1), x.rate(0), Float.floatToRawIntBits((float) thick / (float) (to + 1)));
            }
            x.set(0, 2, 2000);
            due.is("one year", x.rate(0), Float.floatToRawIntBits((float) thick));
            x.set(0, 3, 1999);
            due.is("crossing by one", x.rate(0), 0);
            x.set(0, 3, 1998);
            due.is("crossing by two", x.rate(0), 0);
            x.set(0, 3, 0);
            due.is("crossing by all", x.rate(0), 0);
        }
    }

    private static void ageIs(String when, DigOrder x, int phase, double want, long round) {
        due.is(when + ": bits", x.age(phase, 0), Double.doubleToRawLongBits(want));
        due.is(when + ": round", x.age(phase, 1), round);
    }

    /** "that over the double of all their THICK (0.0, if that is 0)". */
    private static void ageOfNoThickness() {
        DigOrder x = Due.withUnits(3);
        x.set(0, 4, 0);
        x.set(1, 4, 0);
        x.set(0, 1, 0);
        ageIs("one has some", x, 0, 1000.0, 1000);
        x.set(1, 1, 0);
        ageIs("none has any", x, 0, 0.0, 0);
        x.set(0, 4, -1);
        ageIs("one is left", x, 0, 0.0, 0);
        x.set(1, 4, -1);
        due.is("no unit of it", x.age(0, 0), DigOrder.NO);
        due.is("no unit of it, round", x.age(0, 1), DigOrder.NO);
    }

    private static void ageEnds() {
        DigOrder x = Due.withUnits(12);
        for (int u = 0; u < 12; u++) {
            x.set(u, 4, 5);
            x.set(u, 1, 99);
            x.set(u, 2, 2000);
        }
        ageIs("all of 2000", x, 5, 2000.0, 2000);
        for (int u = 0; u < 12; u++) {
            x.set(u, 2, 0);
            x.set(u, 3, 0);
        }
        ageIs("all of 0", x, 5, 0.0, 0);
        x.set(11, 3, 1);
        ageIs("one of 0.5", x, 5, 0.5 * 99.0 / 1188.0, 0);
        x.set(11, 1, 1);
        ageIs("a thin one of 0.5", x, 5, 0.5 / 1090.0, 0);
        for (int p = 0; p < 5; p++) {
            due.is("none has it", x.age(p, 0), DigOrder.NO);
        }
    }

    /** "ROUND: AGE plus 0.5, cast to a long." */
    private static void roundAtHalf() {
        DigOrder x = Due.withUnits(2);
        x.set(0, 4, 2);
        x.set(0, 2, 7);
        x.set(0, 3, 8);
        ageIs("7.5 goes up", x, 2, 7.5, 8);
        x.set(1, 4, 2);
        x.set(1, 2, 7);
        x.set(1, 3, 7);
        x.set(0, 1, 99);
        ageIs("just below 7.5", x, 2, (7.5 * 99.0 + 7.0) / 100.0, 7);
        x.set(1, 2, 8);
        x.set(1, 3, 8);
        ageIs("just above 7.5", x, 2, (7.5 * 99.0 + 8.0) / 100.0, 8);
        x.set(0, 3, 9);
        x.set(1, 3, 8);
        ageIs("8", x, 2, 8.0, 8);
    }
}
