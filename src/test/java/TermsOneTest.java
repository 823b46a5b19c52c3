/** "Terms", 1: units, ties, what reaches what, the proof, bounds; a method for each boundary it names. */
public final class TermsOneTest {
    private static final Due due = new Due("TermsOneTest");

    public static void main(String[] args) {
        twelveUnits();
        sixKinds();
        atFirst();
        atFirstBehindUndo();
        thick();
        years();
        phase();
        fortyTies();
        tieBothWays();
        reachesAlongTwelve();
        reachesItself();
        leastCycle();
        greatestCycle();
        leastUnitOfAll();
        firstOfShortest();
        reducedByAnother();
        reducedByLongChain();
        reducedOfMany();
        reducedWithCycle();
        levelOfNone();
        levelOfTwelve();
        levelIsGreatest();
        due.end();
    }

    /** "UNITS 0 .. 11 (letters a .. l), as they come". */
    private static void twelveUnits() {
        DigOrder x = new DigOrder();
        due.is("none yet", x.told(0), 0);
        for (int u = 0; u < 12; u++) {
            due.is("no unit " + u + " yet", x.of(u, 0), -1);
            due.is("unit " + u, x.unit(5), u);
            due.is("unit " + u + " is there", x.of(u, 0), 5);
            due.is("how many", x.told(0), u + 1);
        }
        for (int kind = 0; kind < 6; kind++) {
            due.is("a thirteenth of kind " + kind, x.unit(kind), -4);
        }
        due.is("twelve", x.told(0), 12);
        due.is("letters", x.draw(1), 12);
        due.is("a to l", Due.paperOf(x), "abcdefghijkl");
    }

    /** "of KINDS: 0 LAYER; 1 CUT, 2 FILL, 3 WALL; 4 PIT; 5 HEARTH". */
    private static void sixKinds() {
        DigOrder x = new DigOrder();
        due.is("unit(0)", x.unit(0), 0);
        due.is("unit(5)", x.unit(5), 1);
        due.is("unit(-1)", x.unit(-1), -2);
        due.is("unit(6)", x.unit(6), -2);
        due.is("two", x.told(0), 2);
        due.is("set kind 5", x.set(0, 0, 5), 0);
        due.is("set kind 0", x.set(0, 0, 0), 5);
        due.is("set kind 6", x.set(0, 0, 6), -2);
        due.is("set kind -1", x.set(0, 0, -1), -2);
        due.is("kind", x.of(0, 0), 0);
    }

    private static void isAtFirst(String which, DigOrder x, int unit) {
        int[] want = {1, 0, 2000, -5, 0};
        for (int what = 1; what <= 5; what++) {
            due.is(which + ", unit " + unit + ": of(" + what + ")", x.of(unit, what), want[what - 1]);
        }
    }

    /** "THICK (1 at first), FROM and TO (0 and 2000 at first), a PHASE or none (at first); DUG or not (at first)". */
    private static void atFirst() {
        DigOrder x = new DigOrder();
        for (int u = 0; u < 12; u++) {
            x.unit(u % 6);
            isAtFirst("at first", x, u);
        }
    }

    /** A unit that comes where one went by undo() is at first, too. */
    private static void atFirstBehindUndo() {
        DigOrder x = Due.withUnits(1);
        x.image();
        x.unit(3);
        x.set(1, 1, 50);
        x.set(1, 2, 700);
        x.set(1, 3, 800);
        x.set(1, 4, 2);
        x.tie(0, 1);
        x.dig(0);
        x.dig(1);
        x.undo();
        due.is("unit 1 is gone", x.of(1, 1), -1);
        due.is("it comes again", x.unit(4), 1);
        due.is("its kind", x.of(1, 0), 4);
        isAtFirst("behind undo", x, 1);
        due.is("lies under none", x.below(1, 3), 0);
    }

    private static void endsOf(int what, int low, int high, int atFirst) {
        DigOrder x = Due.withUnits(12);
        due.is("to the least of " + what, x.set(11, what, low), atFirst);
        due.is("below it", x.set(11, what, low - 1), -2);
        due.is("it stays", x.of(11, what), low == -1 ? -5 : low);
        due.is("to the greatest of " + what, x.set(11, what, high), low == -1 ? -5 : low);
        due.is("above it", x.set(11, what, high + 1), -2);
        due.is("it stays", x.of(11, what), high);
        for (int u = 0; u < 11; u++) {
            due.is("another one's", x.of(u, what), atFirst);
        }
    }

    /** "THICK (0 .. 99)". */
    private static void thick() {
        endsOf(1, 0, 99, 1);
    }

    /** "FROM and TO (years 0 .. 2000)". */
    private static void years() {
        endsOf(2, 0, 2000, 0);
        endsOf(3, 0, 2000, 2000);
    }

    /** "a PHASE (0 .. 5) or none": -1 in set(), -5 when told. */
    private static void phase() {
        endsOf(4, -1, 5, -5);
        DigOrder x = Due.withUnits(2);
        due.is("set(0, 4, -5)", x.set(0, 4, -5), -2);
        due.is("phase 0", x.set(0, 4, 0), -5);
        due.is("its bit", x.told(6), 1);
        due.is("phase 5", x.set(1, 4, 5), -5);
        due.is("both bits", x.told(6), 33);
        due.is("none", x.set(1, 4, -1), 5);
        due.is("one bit", x.told(6), 1);
        due.is("none", x.set(0, 4, -1), 0);
        due.is("no bit", x.told(6), 0);
    }

    /** "one UNIT lies ABOVE another one (as told; 40 at most)". */
    private static void fortyTies() {
        DigOrder x = Due.withUnits(12);
        int ties = 0;
        for (int a = 11; a >= 0; a--) {
            for (int b = 0; b < a && ties < 39; b++) {
                ties = x.tie(a, b);
            }
        }
        due.is("thirty-nine", ties, 39);
        due.is("the fortieth", x.tie(0, 11), 40);
        due.is("the forty-first", x.tie(0, 10), -4);
        due.is("by words neither", Due.say(x, "a over k"), 0);
        due.is("forty", x.told(1), 40);
        due.is("one goes", x.untie(0, 11), 39);
        due.is("another comes", x.tie(0, 10), 40);
        due.is("none beside it", x.tie(0, 11), -4);
        for (int a = 0; a < 12; a++) {
            for (int b = 0; b < 12; b++) {
                ties = x.untie(a, b) >= 0 ? ties - 1 : ties;
            }
        }
        due.is("all went", x.told(1), 0);
        due.is("nothing goes from none", x.untie(0, 10), -3);
    }

    /** A tie is of the first above the other one; the other way about is another tie. */
    private static void tieBothWays() {
        DigOrder x = Due.withUnits(12);
        due.is("tie(11, 0)", x.tie(11, 0), 1);
        due.is("tie(0, 11)", x.tie(0, 11), 2);
        due.is("tie(11, 0) again", x.tie(11, 0), -3);
        due.is("untie(0, 11)", x.untie(0, 11), 1);
        due.is("untie(0, 11) again", x.untie(0, 11), -3);
        due.is("the other one stays", x.below(11, 0), 1);
        due.is("untie(11, 0)", x.untie(11, 0), 0);
    }

    /** Twelve units in one chain, in an order that their numbers don't tell. */
    private static final int[] CHAIN = {7, 2, 11, 0, 5, 9, 1, 10, 4, 8, 3, 6};

    private static DigOrder chained() {
        DigOrder x = Due.withUnits(12);
        for (int i = 0; i < 11; i += 2) {
            x.tie(CHAIN[i], CHAIN[i + 1]);
        }
        for (int i = 1; i < 11; i += 2) {
            x.tie(CHAIN[i], CHAIN[i + 1]);
        }
        return x;
    }

    /** "A UNIT REACHES those to which a chain of TIES goes down from it". */
    private static void reachesAlongTwelve() {
        DigOrder x = chained();
        int above = 0;
        int below = 4095;
        for (int i = 0; i < 12; i++) {
            int u = CHAIN[i];
            below -= 1 << u;
            due.is("unit " + u + " reaches", x.below(u, 1), below);
            due.is("they reach unit " + u, x.below(u, 4), above);
            due.is("it lies above", x.below(u, 0), i == 11 ? 0 : 1 << CHAIN[i + 1]);
            due.is("it lies above by reduced", x.below(u, 2), i == 11 ? 0 : 1 << CHAIN[i + 1]);
            due.is("it lies under", x.below(u, 3), i == 0 ? 0 : 1 << CHAIN[i - 1]);
            above += 1 << u;
        }
        due.is("none reaches itself", x.told(4), 0);
        x.untie(9, 1);
        due.is("the chain is cut", x.below(7, 1), 1 << 2 | 1 << 11 | 1 << 0 | 1 << 5 | 1 << 9);
        due.is("above the cut none reaches 6", x.below(6, 4), 1 << 1 | 1 << 10 | 1 << 4 | 1 << 8 | 1 << 3);
    }

    /** "(perhaps itself)": those on a ring do, those above and under it don't. */
    private static void reachesItself() {
        DigOrder x = Due.withUnits(5);
        x.tie(0, 1);
        x.tie(1, 2);
        x.tie(2, 3);
        due.is("none does", x.told(4), 0);
        due.is("nor 1", x.below(1, 1), 12);
        x.tie(2, 1);
        due.is("two do", x.told(4), 2);
        due.is("1 does", x.below(1, 1), 14);
        due.is("2 does", x.below(2, 4), 7);
        due.is("0 above it doesn't", x.below(0, 1), 14);
        due.is("3 under it doesn't", x.below(3, 1), 0);
        due.is("nothing reaches 0", x.below(0, 4), 0);
    }

    private static void shownIs(String which, DigOrder x, int... want) {
        due.is(which + ": how many", x.cycle(-1), want.length);
        for (int i = 0; i < want.length; i++) {
            due.is(which + ": cycle(" + i + ")", x.cycle(i), want[i]);
        }
        due.is(which + ": behind its end", x.cycle(want.length), -5);
        due.is(which + ": at the very end", x.cycle(Integer.MAX_VALUE), -5);
        due.is(which + ": cycle(-2)", x.cycle(-2), -1);
    }

    /** "There is a CYCLE, if one REACHES itself": two units are enough. */
    private static void leastCycle() {
        DigOrder x = Due.withUnits(12);
        shownIs("without ties", x);
        x.tie(11, 10);
        shownIs("with one", x);
        x.tie(10, 11);
        shownIs("of two", x, 10, 11);
        due.is("levels", x.told(3), -5);
        x.untie(11, 10);
        shownIs("no more", x);
    }

    private static void greatestCycle() {
        DigOrder x = chained();
        x.tie(6, 7);
        shownIs("of twelve", x, 0, 5, 9, 1, 10, 4, 8, 3, 6, 7, 2, 11);
        due.is("all reach themselves", x.told(4), 12);
        due.is("proof(0)", x.proof(0), 1);
        due.is("proof(1)", x.proof(1), 0);
        due.is("proof(2)", x.proof(2), 12);
    }

    /** "the least UNIT that does", not one that only leads to a ring or hangs under it, nor one of a shorter ring. */
    private static void leastUnitOfAll() {
        DigOrder x = Due.withUnits(9);
        x.tie(0, 2);
        x.tie(2, 3);
        x.tie(3, 4);
        x.tie(4, 2);
        x.tie(4, 1);
        x.tie(5, 6);
        x.tie(6, 5);
        shownIs("the least, though longer", x, 2, 3, 4);
        x.untie(3, 4);
        shownIs("the other ring", x, 5, 6);
    }

    /** "of all shortest chains from it back to it the first (UNIT by UNIT, the lesser number)". */
    private static void firstOfShortest() {
        DigOrder x = Due.withUnits(12);
        x.tie(0, 9);
        x.tie(9, 2);
        x.tie(2, 0);
        x.tie(0, 8);
        x.tie(8, 3);
        x.tie(3, 0);
        shownIs("the lesser second", x, 0, 8, 3);
        x.tie(8, 11);
        x.tie(11, 0);
        shownIs("the lesser third", x, 0, 8, 3);
        x.untie(3, 0);
        shownIs("the third that leads back", x, 0, 8, 11);
        x.tie(0, 1);
        x.tie(1, 2);
        shownIs("the lesser second, now 1", x, 0, 1, 2);
        x.untie(2, 0);
        x.tie(2, 4);
        x.tie(4, 0);
        shownIs("1 leads round too far", x, 0, 8, 11);
        x.tie(10, 0);
        x.tie(0, 10);
        shownIs("shorter ahead of lesser", x, 0, 10);
    }

    /** "but for those for which some other UNIT, that a REACHES, REACHES b". */
    private static void reducedByAnother() {
        DigOrder x = Due.withUnits(12);
        x.tie(0, 11);
        due.is("one tie", x.told(2), 1);
        x.tie(0, 5);
        due.is("5 doesn't reach 11", x.told(2), 2);
        due.is("none is idle", x.idle(0), -5);
        x.tie(5, 11);
        due.is("5 reaches 11", x.told(2), 2);
        due.is("idle", x.idle(0), 11);
        due.is("that one alone", x.idle(1), -5);
        due.is("of 0", x.below(0, 2), 32);
        due.is("as told", x.below(0, 0), 32 + 2048);
        x.untie(0, 5);
        due.is("0 doesn't reach 5", x.told(2), 2);
        due.is("none is idle any more", x.idle(0), -5);
    }

    private static void reducedByLongChain() {
        DigOrder x = chained();
        due.is("the chain", x.told(2), 11);
        x.tie(7, 6);
        due.is("end to end", x.told(2), 11);
        due.is("idle", x.idle(0), 706);
        x.untie(5, 9);
        due.is("the chain is cut", x.told(2), 11);
        due.is("none is idle", x.idle(0), -5);
    }

    /** All 28 ties among eight units: seven say all. They are idle in the order in which they came. */
    private static void reducedOfMany() {
        DigOrder x = Due.withUnits(8);
        for (int b = 7; b > 0; b--) {
            for (int a = 0; a < b; a++) {
                x.tie(a, b);
            }
        }
        due.is("ties", x.told(1), 28);
        due.is("reduced", x.told(2), 7);
        due.is("the first idle one", x.idle(0), 7);
        due.is("the second", x.idle(1), 107);
        due.is("the seventh", x.idle(6), 6);
        due.is("the last", x.idle(20), 2);
        due.is("behind the last", x.idle(21), -5);
        due.is("at the very end", x.idle(Integer.MAX_VALUE), -5);
    }

    /** "(without a CYCLE; with one all TIES)". */
    private static void reducedWithCycle() {
        DigOrder x = Due.withUnits(5);
        x.tie(0, 1);
        x.tie(1, 2);
        x.tie(0, 2);
        due.is("without", x.told(2), 2);
        x.tie(3, 4);
        x.tie(4, 3);
        due.is("with one beside it", x.told(2), 5);
        due.is("of 0", x.below(0, 2), 6);
        due.is("none is idle", x.idle(0), -5);
        due.is("all are drawn", x.draw(0), 19);
        x.untie(4, 3);
        due.is("without once more", x.told(2), 3);
    }

    /** "LEVEL of a UNIT: 0, if it lies ABOVE none". */
    private static void levelOfNone() {
        DigOrder x = Due.withUnits(3);
        due.is("no ties", x.level(2), 0);
        due.is("one level", x.told(3), 1);
        x.tie(0, 2);
        due.is("above one", x.level(0), 1);
        due.is("under one", x.level(2), 0);
        due.is("beside them", x.level(1), 0);
        due.is("two levels", x.told(3), 2);
        due.is("no units, no levels", new DigOrder().told(3), 0);
    }

    private static void levelOfTwelve() {
        DigOrder x = chained();
        for (int i = 0; i < 12; i++) {
            due.is("level of " + CHAIN[i], x.level(CHAIN[i]), 11 - i);
        }
        due.is("twelve levels", x.told(3), 12);
        x.tie(6, 7);
        for (int u = 0; u < 12; u++) {
            due.is("with a cycle", x.level(u), -3);
        }
    }

    /** "else 1 more than the greatest LEVEL of those it lies ABOVE". */
    private static void levelIsGreatest() {
        DigOrder x = Due.withUnits(6);
        x.tie(5, 0);
        due.is("above level 0", x.level(5), 1);
        x.tie(4, 5);
        x.tie(3, 4);
        x.tie(3, 0);
        due.is("the greatest counts", x.level(3), 3);
        x.untie(4, 5);
        due.is("a lesser one now", x.level(3), 1);
    }
}
