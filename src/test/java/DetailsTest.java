/** "Details" and "Answers": a method for each of their sentences. */
public final class DetailsTest {
    private static final Due due = new Due("DetailsTest");

    public static void main(String[] args) {
        itselfByCycleAlone();
        shownLeadsBack();
        cutUnderFill();
        behindTheLastNumber();
        noUnitsOneOrder();
        tieOfWhatIsDug();
        rankOnRing();
        letterOfNoUnit();
        secondBlank();
        noSeenAllFit();
        noUnitsJudged();
        fromAboveTo();
        constants();
        beyondIsNoRefusal();
        due.end();
    }

    /** "A UNIT REACHES itself only by a CYCLE." */
    private static void itselfByCycleAlone() {
        DigOrder x = Due.withUnits(3);
        for (int u = 0; u < 3; u++) {
            due.is("a tie to itself", x.tie(u, u), -1);
            due.is("by words", Due.say(x, "" + (char) ('a' + u) + " over " + (char) ('a' + u)), 0);
            due.is("it doesn't reach itself", x.below(u, 1), 0);
        }
        x.see(1, 1, true);
        x.tie(0, 1);
        due.is("seen, but not so", x.fits(0), 0);
        x.tie(1, 2);
        x.tie(2, 1);
        due.is("without 0 over 1", x.fits(0), 1);
        due.is("that one", x.fits(1), 1);
        due.is("reached by itself", x.below(1, 4), 7);
        due.is("0 isn't", x.below(0, 4), 0);
    }

    /** "What is SHOWN leads back to that least UNIT by a shortest chain." */
    private static void shownLeadsBack() {
        for (int length = 2; length <= 12; length++) {
            DigOrder x = Due.withUnits(12);
            for (int i = 0; i < length; i++) {
                x.tie(i, (i + 1) % length);
            }
            due.is("how many", x.cycle(-1), length);
            for (int i = 0; i < length; i++) {
                due.is("cycle(" + i + ")", x.cycle(i), i);
            }
            due.is("behind it", x.cycle(length), -5);
            due.is("bytes", x.draw(1), 2 * length + 1);
            due.is("the first once more", x.paper(2 * length), 'a');
            due.is("how many reach themselves", x.told(4), length);
        }
    }

    /** "A CUT that a FILL lies ABOVE, lies directly under it by REDUCED." */
    private static void cutUnderFill() {
        DigOrder x = Due.withUnits(3);
        x.set(0, 0, 2);
        x.set(2, 0, 1);
        x.tie(0, 2);
        due.is("directly", x.proof(0), 0);
        x.tie(0, 1);
        due.is("beside another one", x.proof(0), 0);
        x.tie(1, 2);
        due.is("not by reduced any more", x.proof(0), 2);
        due.is("its cause", x.proof(1), 0);
    }

    /** "proof(k) behind the last number of a FAULT is -5." */
    private static void behindTheLastNumber() {
        DigOrder x = Due.withUnits(2);
        int[] far = {3, 4, 12, 60, Integer.MAX_VALUE};
        x.set(0, 2, 10);
        x.set(0, 3, 9);
        for (int k : far) {
            due.is("fault 4", x.proof(k), -5);
        }
        due.is("fault 4 has three", x.proof(2), 1);
        x.set(0, 0, 2);
        due.is("fault 2 has two", x.proof(1), 0);
        due.is("no third", x.proof(2), -5);
        x.tie(0, 1);
        x.tie(1, 0);
        due.is("fault 1 has three", x.proof(2), 2);
        due.is("no fourth", x.proof(3), -5);
        x.untie(0, 1);
        x.set(0, 0, 0);
        x.set(0, 2, 0);
        due.is("no fault", x.proof(0), 0);
        due.is("no cause", x.proof(1), -5);
        due.is("none of that", x.proof(2), -5);
        for (int k : far) {
            due.is("no fault", x.proof(k), -5);
        }
    }

    /** "Without UNITS there is one LAWFUL ORDER." */
    private static void noUnitsOneOrder() {
        DigOrder x = new DigOrder();
        due.is("orders", x.orders(), 1);
        due.is("after", x.after(0), 1);
        due.is("no unit of it", x.order(0, 0), -1);
        due.is("no other", x.order(1, 0), -1);
    }

    /** "A TIE may be told of what is DUG, too, which stays so." */
    private static void tieOfWhatIsDug() {
        DigOrder x = Due.withUnits(3);
        x.dig(1);
        due.is("above it", x.tie(0, 1), 1);
        due.is("under it", x.tie(1, 2), 2);
        due.is("by words", Due.say(x, "c cuts b"), 1);
        due.is("it stays", x.of(1, 5), 1);
        due.is("how many", x.told(5), 1);
        due.is("the first", x.dug(0), 1);
        due.is("a tie goes", x.untie(0, 1), 2);
        due.is("it stays", x.of(1, 5), 1);
        due.is("its lay", x.lay(), 1);
    }

    /** "RANK does not count the PHASE itself, also on a ring." */
    private static void rankOnRing() {
        DigOrder x = Due.withUnits(6);
        int[] phases = {0, 5, 5, 3, 3, 0};
        for (int u = 0; u < 6; u++) {
            x.set(u, 4, phases[u]);
        }
        x.tie(0, 1);
        x.tie(2, 3);
        due.is("a chain", x.rank(0), 2);
        x.tie(4, 5);
        for (int p : new int[] {0, 3, 5}) {
            due.is("a ring", x.rank(p), 2);
        }
        due.is("off the ring", x.rank(1), 0);
    }

    /** "A SENTENCE with a letter of no UNIT is not done." */
    private static void letterOfNoUnit() {
        DigOrder x = Due.withUnits(2);
        due.is("the first letter", Due.say(x, "c over a;a over b"), 1);
        due.is("the second letter", Due.say(x, "b cuts c;a joins c"), 0);
        due.is("both", Due.say(x, "l joins l;c fills d"), 0);
        due.is("ties", x.told(1), 1);
        due.is("no unit came", x.told(0), 2);
        due.is("kind", x.of(1, 0), 0);
    }

    /** "A second blank is where a FAULT 1 is." */
    private static void secondBlank() {
        DigOrder x = Due.withUnits(2);
        due.is("ahead of the verb", Due.say(x, "a  over b"), -102);
        due.is("behind the verb", Due.say(x, "a over  b"), -107);
        due.is("a third", Due.say(x, "a   over b"), -102);
        due.is("behind a verb that is none", Due.say(x, "a ovr  b"), -302);
    }

    /** "Without SEEN all TIES FIT." */
    private static void noSeenAllFit() {
        DigOrder x = Due.withUnits(4);
        due.is("no ties", x.fits(0), 0);
        x.tie(3, 1);
        x.tie(1, 3);
        due.is("with a cycle", x.fits(0), 2);
        due.is("the first", x.fits(1), 301);
    }

    /** "Without UNITS JUDGED is -5, CAST and STATE ahead of that." */
    private static void noUnitsJudged() {
        DigOrder x = new DigOrder();
        for (int i : new int[] {0, -1, 1, 60, Integer.MIN_VALUE, Integer.MAX_VALUE}) {
            due.is("nothing there", x.judge(5, i), -5);
        }
        for (int sort = 0; sort <= 4; sort++) {
            x.tape(5, sort, 0);
            due.is("a row of none", x.judge(5, 0), sort == 1 ? -5 : -12);
            due.is("a row of none, place below 0", x.judge(5, -1), sort == 1 ? -5 : -12);
        }
        due.is("tape 6", x.judge(6, 0), -1);
        x.unit(0);
        x.unit(0);
        x.tape(5, 1, 2);
        due.is("with units", x.judge(5, 0), -5);
        x.tie(0, 1);
        x.tie(1, 0);
        due.is("state ahead", x.judge(5, 0), -3);
    }

    /** "FROM may be above TO." */
    private static void fromAboveTo() {
        DigOrder x = Due.withUnits(1);
        due.is("to 0", x.set(0, 3, 0), 2000);
        due.is("from 2000", x.set(0, 2, 2000), 0);
        due.is("from", x.of(0, 2), 2000);
        due.is("to", x.of(0, 3), 0);
        due.is("earliest", x.bounds(0, 0), 2000);
        due.is("latest", x.bounds(0, 1), 0);
        due.is("to below from", x.set(0, 3, 1999), 0);
        due.is("to alike", x.set(0, 3, 2000), 1999);
    }

    /** "NONE (-1), BAD (-2), STATE (-3), FULL (-4)", NO, the least long. */
    private static void constants() {
        due.is("NONE", DigOrder.NONE, -1);
        due.is("BAD", DigOrder.BAD, -2);
        due.is("STATE", DigOrder.STATE, -3);
        due.is("FULL", DigOrder.FULL, -4);
        due.is("NO", DigOrder.NO, -9223372036854775807L - 1);
    }

    /** Where a call tells -5, a number that is too great is no refusal. */
    private static void beyondIsNoRefusal() {
        for (Stage stage : Stage.values()) {
            DigOrder x = stage.make();
            Rows rows = new Rows(due, x, stage.name());
            rows.due("cycle >11", -5);
            rows.due("idle >39", -5);
            rows.due("proof >2", -5);
            rows.due("dug >11", -5);
            rows.due("paper >158", -5);
        }
    }
}
