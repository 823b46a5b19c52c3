/** "Terms", 3: the paper, what is seen, events, the image; a method for each boundary it names. */
public final class TermsThreeTest {
    private static final Due due = new Due("TermsThreeTest");

    public static void main(String[] args) {
        paperAtFirst();
        paperOfTies();
        paperLongest();
        paperOfLevels();
        paperOfCycle();
        paperShorterThanBefore();
        seenFive();
        seenNone();
        seenTheSame();
        fitsNothingSeen();
        fitsOneAlone();
        fitsWithCycle();
        fitsAsTheyCame();
        fitsOfForty();
        eventsEight();
        eventDug();
        eventTiesGo();
        eventYears();
        eventsOneBehindTheOther();
        afterEnds();
        afterChangesNothing();
        imageNone();
        imageOfNothing();
        imageOfAll();
        imageDugInOrder();
        imageTiesAsTheyCame();
        imageKindAsHeld();
        imageSeen();
        imageEvents();
        imageStays();
        imageLeaves();
        due.end();
    }

    /** "THE PAPER (nothing at first; changed by draw() alone)". */
    private static void paperAtFirst() {
        DigOrder x = Due.withUnits(3);
        x.tie(0, 1);
        due.is("no bytes", x.count(3), 0);
        due.is("paper(0)", x.paper(0), -5);
        due.is("paper at the very end", x.paper(Integer.MAX_VALUE), -5);
        due.is("paper(-1)", x.paper(-1), -1);
        due.is("draw", x.draw(0), 3);
        due.is("paper(2)", x.paper(2), 'b');
        due.is("paper(3)", x.paper(3), -5);
        x.tie(1, 2);
        due.is("it stays", Due.paperOf(x), "a>b");
    }

    /** "UNIT, >, UNIT, with ; between, by the first, then the other one". */
    private static void paperOfTies() {
        DigOrder x = Due.withUnits(12);
        due.is("no ties", x.draw(0), 0);
        x.tie(11, 10);
        due.is("one", x.draw(0), 3);
        due.is("text", Due.paperOf(x), "l>k");
        x.tie(0, 11);
        x.tie(0, 2);
        x.tie(1, 0);
        due.is("four", x.draw(0), 15);
        due.is("text", Due.paperOf(x), "a>c;a>l;b>a;l>k");
        x.tie(1, 10);
        due.is("an idle one more", x.draw(0), 15);
    }

    private static void paperLongest() {
        DigOrder x = Due.withUnits(12);
        StringBuilder text = new StringBuilder();
        int ties = 0;
        for (int b = 11; b >= 0; b--) {
            for (int a = 11; a >= 0 && ties < 40; a--) {
                ties = a == b ? ties : x.tie(a, b);
            }
        }
        for (int a = 0; a < 12; a++) {
            for (int b = 0; b < 12; b++) {
                if ((x.below(a, 0) >> b & 1) == 1) {
                    text.append(text.length() == 0 ? "" : ";").append((char) ('a' + a)).append('>').append((char) ('a' + b));
                }
            }
        }
        due.is("forty ties", x.draw(0), 159);
        due.is("bytes", x.count(3), 159);
        due.is("text", Due.paperOf(x), text.toString());
        due.is("the last byte", x.paper(158), text.charAt(158));
        due.is("behind it", x.paper(159), -5);
        due.is("far behind it", x.paper(160), -5);
    }

    /** "UNITS of each LEVEL (by numbers, nothing between them), the greatest LEVEL first, with | between". */
    private static void paperOfLevels() {
        DigOrder x = new DigOrder();
        due.is("no units", x.draw(1), 0);
        x.unit(0);
        due.is("one", x.draw(1), 1);
        due.is("text", Due.paperOf(x), "a");
        x.unit(0);
        x.unit(0);
        x.tie(2, 0);
        due.is("two levels", x.draw(1), 4);
        due.is("text", Due.paperOf(x), "c|ab");
        x.tie(1, 2);
        due.is("three levels", x.draw(1), 5);
        due.is("text", Due.paperOf(x), "b|c|a");
        due.is("ties", x.draw(0), 7);
    }

    /** "(by a CYCLE: the SHOWN ones, with > between, and the first once more)". */
    private static void paperOfCycle() {
        DigOrder x = Due.withUnits(12);
        x.tie(0, 11);
        x.tie(11, 10);
        x.tie(10, 11);
        due.is("of two", x.draw(1), 5);
        due.is("text", Due.paperOf(x), "k>l>k");
        due.is("its ties", x.draw(0), 11);
        due.is("text", Due.paperOf(x), "a>l;k>l;l>k");
        x.untie(10, 11);
        due.is("levels", x.draw(1), 14);
        due.is("text", Due.paperOf(x), "a|l|bcdefghijk");
    }

    private static void paperShorterThanBefore() {
        DigOrder x = Due.withUnits(4);
        x.draw(1);
        due.is("four", Due.paperOf(x), "abcd");
        x.tie(0, 1);
        x.draw(0);
        due.is("three", Due.paperOf(x), "a>b");
        due.is("behind it", x.paper(3), -5);
        due.is("refused", x.draw(2), -1);
        due.is("refused", x.draw(-1), -1);
        due.is("it stays", Due.paperOf(x), "a>b");
        x.untie(0, 1);
        due.is("none", x.draw(0), 0);
        due.is("paper(0)", x.paper(0), -5);
    }

    /** "(5 rows at most)". */
    private static void seenFive() {
        DigOrder x = Due.withUnits(12);
        for (int row = 1; row <= 5; row++) {
            due.is("row " + row, x.see(0, 11, true), row);
            due.is("rows", x.count(0), row);
        }
        due.is("a sixth", x.see(0, 11, true), -4);
        due.is("none ahead of full", x.see(12, 0, true), -1);
        due.is("none ahead of full", x.see(0, 12, true), -1);
        due.is("rows", x.count(0), 5);
    }

    /** "(a -1: none then, 0, whatever the others are)". */
    private static void seenNone() {
        int[] others = {-1, 0, 11, 12, Integer.MIN_VALUE, Integer.MAX_VALUE};
        for (int other : others) {
            for (int rows = 0; rows <= 5; rows++) {
                DigOrder x = Due.withUnits(2);
                for (int row = 0; row < rows; row++) {
                    x.see(0, 1, true);
                }
                due.is("none then", x.see(-1, other, rows % 2 == 0), 0);
                due.is("rows", x.count(0), 0);
                x.tie(1, 0);
                due.is("nothing is seen", x.fits(0), 1);
                due.is("the first", x.see(1, 0, false), 1);
            }
        }
        due.is("without units", new DigOrder().see(-1, 0, true), 0);
        due.is("see(-2, 0)", Due.withUnits(1).see(-2, 0, true), -1);
    }

    /** "two UNITS (the same twice, too)", "whether the first REACHES the other one". */
    private static void seenTheSame() {
        DigOrder x = Due.withUnits(3);
        x.tie(0, 1);
        due.is("the same", x.see(2, 2, false), 1);
        due.is("it doesn't reach itself", x.fits(0), 1);
        due.is("the same, reached", x.see(2, 2, true), 2);
        due.is("not both", x.fits(0), 0);
        x.see(-1, 0, true);
        due.is("the first, not the other", x.see(1, 0, false), 1);
        due.is("so it is", x.fits(0), 1);
        due.is("no tie is none", x.see(0, 1, true), 2);
        due.is("the tie is needed", x.fits(0), 0);
    }

    /** "Without SEEN all TIES FIT." */
    private static void fitsNothingSeen() {
        DigOrder x = Due.withUnits(3);
        due.is("no ties", x.fits(0), 0);
        due.is("no first", x.fits(1), -5);
        x.see(0, 1, false);
        due.is("no ties, though it is so", x.fits(0), 0);
        due.is("no first", x.fits(1), -5);
        x.see(-1, 0, false);
        x.tie(2, 1);
        x.tie(1, 2);
        x.tie(0, 2);
        due.is("all", x.fits(0), 3);
        due.is("the first", x.fits(1), 201);
        due.is("fits(2)", x.fits(2), -1);
        due.is("fits(-1)", x.fits(-1), -1);
    }

    /** "without which (one alone left out) all SEEN is so". */
    private static void fitsOneAlone() {
        DigOrder x = Due.withUnits(4);
        x.tie(0, 1);
        x.tie(2, 1);
        x.tie(1, 3);
        x.see(0, 3, false);
        due.is("either tie of the chain", x.fits(0), 2);
        due.is("the first", x.fits(1), 1);
        x.see(2, 3, false);
        due.is("the tie that both need", x.fits(0), 1);
        due.is("the first", x.fits(1), 103);
        x.see(2, 1, false);
        due.is("two would have to go", x.fits(0), 0);
        due.is("no first", x.fits(1), -5);
        due.is("all ties are there", x.told(1), 3);
    }

    /** "(with a CYCLE or not)". */
    private static void fitsWithCycle() {
        DigOrder x = Due.withUnits(3);
        x.tie(0, 1);
        x.tie(1, 2);
        x.tie(2, 0);
        x.see(0, 0, false);
        due.is("each tie breaks the cycle", x.fits(0), 3);
        x.see(0, 2, true);
        due.is("the one that leads back", x.fits(0), 1);
        due.is("it", x.fits(1), 200);
        x.tie(1, 0);
        due.is("another cycle stays", x.fits(0), 0);
        x.see(-1, 0, false);
        x.see(1, 1, true);
        due.is("a cycle is seen", x.fits(0), 3);
        due.is("the first", x.fits(1), 102);
    }

    /** "(as they came)". */
    private static void fitsAsTheyCame() {
        DigOrder x = Due.withUnits(4);
        x.tie(3, 2);
        x.tie(0, 1);
        x.tie(1, 2);
        due.is("the first", x.fits(1), 302);
        x.untie(3, 2);
        due.is("the second then", x.fits(1), 1);
        x.tie(3, 2);
        due.is("it came last", x.fits(1), 1);
        x.see(0, 1, true);
        due.is("the next that fits", x.fits(1), 102);
        x.see(1, 2, true);
        due.is("the last", x.fits(1), 302);
    }

    private static void fitsOfForty() {
        DigOrder x = Due.withUnits(12);
        int ties = 0;
        for (int a = 0; a < 12; a++) {
            for (int b = a + 1; b < 12 && ties < 40; b++) {
                ties = x.tie(a, b);
            }
        }
        due.is("all forty", x.fits(0), 40);
        due.is("the first", x.fits(1), 1);
        x.see(0, 1, true);
        due.is("one less", x.fits(0), 39);
        due.is("the second", x.fits(1), 2);
        x.see(4, 6, false);
        due.is("the last alone", x.fits(0), 1);
        due.is("it", x.fits(1), 406);
    }

    /** "8 rows at most", "(what -1: none then, 0, whatever the other is)". */
    private static void eventsEight() {
        DigOrder x = Due.withUnits(12);
        for (int row = 1; row <= 8; row++) {
            due.is("row " + row, x.event(row % 4, 11), row);
            due.is("rows", x.count(1), row);
        }
        due.is("a ninth", x.event(0, 0), -4);
        due.is("none ahead of full", x.event(4, 0), -1);
        due.is("none ahead of full", x.event(0, 12), -1);
        for (int n : new int[] {-1, 0, 12, Integer.MAX_VALUE, Integer.MIN_VALUE}) {
            x.event(2, 0);
            due.is("none then", x.event(-1, n), 0);
            due.is("rows", x.count(1), 0);
            due.is("none of none", x.event(-1, n), 0);
        }
        due.is("event(3, 0)", x.event(3, 0), 1);
        due.is("event(4, 0)", x.event(4, 0), -1);
        due.is("event(-2, 0)", x.event(-2, 0), -1);
        due.is("event(0, -1)", x.event(0, -1), -1);
        due.is("without units", new DigOrder().event(-1, 0), 0);
    }

    /** "0 UNIT n is DUG, whatever lies ABOVE it". */
    private static void eventDug() {
        DigOrder x = Due.withUnits(3);
        x.tie(0, 1);
        x.tie(1, 2);
        x.event(0, 2);
        due.is("the lowest is dug", x.after(0), 1);
        x.event(0, 1);
        due.is("the one that holds it, too", x.after(0), 1);
        x.event(-1, 0);
        x.event(0, 1);
        due.is("what is dug holds nothing", x.after(0), 2);
        x.event(0, 1);
        due.is("once more is nothing", x.after(0), 2);
        x.dig(0);
        due.is("0 dug in deed", x.after(0), 1);
        x.event(0, 0);
        due.is("dug in deed already", x.after(0), 1);
        x.event(0, 2);
        due.is("none is left", x.after(0), 1);
        due.is("in deed one", x.told(5), 1);
        DigOrder y = Due.withUnits(12);
        for (int u = 0; u < 8; u++) {
            y.event(0, u);
        }
        due.is("eight are dug", y.after(0), 24);
    }

    /** "1 all TIES from UNIT n down go": all of them, and none to it. */
    private static void eventTiesGo() {
        DigOrder x = Due.withUnits(12);
        for (int u = 0; u < 12; u++) {
            if (u != 5) {
                x.tie(5, u);
            }
        }
        x.untie(5, 0);
        x.tie(0, 5);
        due.is("5 holds all others", x.after(0), 3628800);
        x.event(1, 5);
        due.is("5 holds none, 0 holds 5", x.after(0), 239500800);
        x.event(1, 1);
        due.is("1 has none", x.after(0), 239500800);
        x.event(1, 0);
        due.is("none is left", x.after(0), 479001600);
        due.is("all are there in deed", x.told(1), 11);
        due.is("orders in deed", x.orders(), 3628800);
    }

    /** "2 FROM of UNIT n is 1000; 3 TO of UNIT n is 1000". */
    private static void eventYears() {
        DigOrder x = Due.withUnits(2);
        x.event(2, 0);
        x.set(0, 3, 1000);
        due.is("from 1000 to 1000", x.after(1), 0);
        x.set(0, 3, 999);
        due.is("from 1000 to 999", x.after(1), 1);
        x.event(-1, 0);
        x.event(3, 0);
        x.set(0, 3, 0);
        x.set(0, 2, 1000);
        due.is("from 1000 to 1000", x.after(1), 0);
        x.set(0, 2, 1001);
        due.is("from 1001 to 1000", x.after(1), 1);
        x.set(0, 2, 0);
        x.event(2, 0);
        due.is("both", x.after(1), 0);
        due.is("from in deed", x.of(0, 2), 0);
        due.is("to in deed", x.of(0, 3), 0);
        due.is("the other's", x.of(1, 2), 0);
    }

    /** "behind all of it". */
    private static void eventsOneBehindTheOther() {
        DigOrder x = Due.withUnits(3);
        x.tie(0, 1);
        x.tie(1, 2);
        x.set(2, 2, 1200);
        x.set(0, 3, 1100);
        due.is("all cross", x.after(1), 3);
        x.event(2, 2);
        due.is("none crosses", x.after(1), 0);
        x.event(3, 0);
        due.is("alike", x.after(1), 0);
        x.event(1, 1);
        x.event(1, 0);
        due.is("no ties", x.after(0), 6);
        x.event(0, 0);
        x.event(0, 2);
        due.is("one is left", x.after(0), 1);
        x.event(2, 1);
        x.event(3, 1);
        due.is("eight rows", x.count(1), 8);
        due.is("none crosses", x.after(1), 0);
    }

    /** "how many LAWFUL ORDERS (0 .. ); how many UNITS whose BOUNDS cross (-5: a CYCLE)". */
    private static void afterEnds() {
        DigOrder x = new DigOrder();
        due.is("no units", x.after(0), 1);
        due.is("no units cross", x.after(1), 0);
        for (int u = 0; u < 12; u++) {
            x.unit(0);
            x.set(u, 2, 1001);
            x.set(u, 3, 1000);
        }
        due.is("all orders", x.after(0), 479001600);
        due.is("all cross", x.after(1), 12);
        x.tie(0, 1);
        x.tie(1, 0);
        due.is("a cycle", x.after(0), 0);
        due.is("a cycle", x.after(1), -5);
        x.event(1, 1);
        due.is("it goes", x.after(0), 239500800);
        due.is("all cross once more", x.after(1), 12);
        due.is("after(2)", x.after(2), DigOrder.NO);
        due.is("after(-1)", x.after(-1), DigOrder.NO);
    }

    private static void afterChangesNothing() {
        DigOrder x = Stage.USED.make();
        for (int what = 0; what < 4; what++) {
            x.event(what, 3);
        }
        String was = Look.at(x);
        x.after(0);
        x.after(1);
        due.is("after changes nothing", Look.at(x), was);
    }

    /** "undo(): STATE: there is none." */
    private static void imageNone() {
        DigOrder x = Due.withUnits(2);
        due.is("no image", x.undo(), -3);
        due.is("all stays", x.told(0), 2);
        due.is("image", x.image(), 2);
        due.is("undo", x.undo(), 2);
    }

    private static void imageOfNothing() {
        DigOrder x = new DigOrder();
        due.is("of nothing", x.image(), 0);
        for (int u = 0; u < 12; u++) {
            x.unit(1);
        }
        x.tie(0, 1);
        x.dig(0);
        x.tray(1, 0, 5);
        x.see(0, 1, true);
        x.event(0, 0);
        due.is("back", x.undo(), 0);
        due.is("as new", Look.at(x), Look.at(new DigOrder()));
        due.is("still there", x.undo(), 0);
    }

    /** "THE IMAGE: UNITS, TIES, TRAYS, what was DUG in which order, SEEN, EVENTS." */
    private static void imageOfAll() {
        for (Stage stage : Stage.values()) {
            DigOrder x = stage.make();
            String was = Look.at(x);
            int units = x.told(0);
            due.is(stage + ": image", x.image(), units);
            for (int u = 0; u < units; u++) {
                x.set(u, 0, 3);
                x.set(u, 1, 55);
                x.set(u, 2, 1500);
                x.set(u, 3, 1400);
                x.set(u, 4, u % 2);
            }
            for (int a = 0; a < units; a++) {
                for (int b = 0; b < units; b++) {
                    if (x.untie(b, a) < 0) {
                        x.tie(b, a);
                    }
                }
            }
            for (int k = 0; k < 12; k++) {
                x.lay();
            }
            for (int place = 0; place < 4; place++) {
                x.tray(0, place, 1);
                x.tray(1, place, -1);
                x.tray(2, place, 0);
            }
            x.unit(5);
            x.see(-1, 0, true);
            x.event(-1, 0);
            due.is(stage + ": undo", x.undo(), units);
            due.is(stage + ": all is as the image", Look.at(x), was);
        }
    }

    /** "what was DUG in which order": not the order of numbers, nor that of a later digging. */
    private static void imageDugInOrder() {
        DigOrder x = Due.withUnits(5);
        int[] row = {3, 0, 4, 1};
        for (int u : row) {
            x.dig(u);
        }
        x.image();
        for (int k = 0; k < 4; k++) {
            x.lay();
        }
        for (int u = 0; u < 5; u++) {
            x.dig(u);
        }
        x.undo();
        for (int k = 0; k < 4; k++) {
            due.is("dug(" + k + ")", x.dug(k), row[k]);
        }
        due.is("no fifth", x.dug(4), -5);
        for (int k = 3; k >= 0; k--) {
            due.is("laid back", x.lay(), row[k]);
        }
    }

    /** TIES are of the image as they came: what is idle and what fits is told in that order. */
    private static void imageTiesAsTheyCame() {
        DigOrder x = Due.withUnits(4);
        int[][] row = {{0, 3}, {2, 3}, {0, 2}, {1, 2}, {1, 3}, {0, 1}};
        for (int[] t : row) {
            x.tie(t[0], t[1]);
        }
        x.image();
        for (int a = 0; a < 4; a++) {
            for (int b = a + 1; b < 4; b++) {
                x.untie(a, b);
                x.tie(a, b);
            }
        }
        due.is("idle, as they came then", x.idle(0), 2);
        x.undo();
        due.is("idle", x.idle(0), 3);
        due.is("idle", x.idle(1), 2);
        due.is("idle", x.idle(2), 103);
        due.is("no other", x.idle(3), -5);
        for (int[] t : row) {
            due.is("the first that fits", x.fits(1), 100 * t[0] + t[1]);
            x.untie(t[0], t[1]);
        }
    }

    /** TRAYS are of the image with the KIND as held, which needn't be the unit's any more. */
    private static void imageKindAsHeld() {
        DigOrder x = Due.withUnits(2);
        x.set(0, 0, 4);
        x.tray(1, 2, 0);
        x.set(0, 0, 3);
        x.tray(2, 0, 0);
        x.set(0, 0, 0);
        x.image();
        x.set(0, 0, 1);
        x.tray(1, 2, 0);
        x.tray(2, 0, -1);
        x.tray(0, 1, 1);
        due.is("held anew", x.held(1, 2, 1), 1);
        x.undo();
        due.is("as held in tray 1", x.held(1, 2, 1), 4);
        due.is("as held in tray 2", x.held(2, 0, 1), 3);
        due.is("nothing there", x.held(0, 1, 0), -5);
        due.is("its kind", x.of(0, 0), 0);
    }

    /** The rows that were seen come back, not how many alone. */
    private static void imageSeen() {
        DigOrder x = Due.withUnits(4);
        x.tie(0, 1);
        x.tie(2, 3);
        x.tie(1, 2);
        x.see(0, 1, true);
        x.see(3, 2, false);
        x.image();
        due.is("two fit", x.fits(0), 2);
        x.see(-1, 0, true);
        x.see(2, 3, false);
        x.see(0, 0, true);
        due.is("others", x.fits(0), 0);
        x.undo();
        due.is("rows", x.count(0), 2);
        due.is("two fit", x.fits(0), 2);
        due.is("the first", x.fits(1), 203);
        x.see(-1, 0, true);
        x.see(3, 2, true);
        x.undo();
        due.is("whether it reaches", x.fits(0), 2);
        x.see(-1, 0, true);
        x.see(0, 3, true);
        x.see(1, 2, false);
        x.undo();
        due.is("which it reaches", x.fits(0), 2);
    }

    /** The rows of events come back, what happens and to which. */
    private static void imageEvents() {
        DigOrder x = Due.withUnits(3);
        x.tie(0, 1);
        x.event(0, 0);
        x.event(1, 0);
        x.image();
        due.is("one is dug, no ties", x.after(0), 2);
        x.event(-1, 0);
        x.event(2, 0);
        x.event(3, 0);
        due.is("others", x.after(0), 3);
        x.undo();
        due.is("what happens", x.after(0), 2);
        x.event(-1, 0);
        x.event(0, 1);
        x.event(1, 1);
        x.undo();
        x.dig(0);
        due.is("to which", x.after(0), 2);
        due.is("rows", x.count(1), 2);
    }

    /** The image stays behind undo(); a later one takes its place; it is no more than a copy. */
    private static void imageStays() {
        DigOrder x = Due.withUnits(1);
        x.set(0, 1, 5);
        x.image();
        x.set(0, 1, 6);
        x.undo();
        x.set(0, 1, 7);
        x.undo();
        due.is("as the image", x.of(0, 1), 5);
        x.set(0, 1, 8);
        due.is("a later one", x.image(), 1);
        x.set(0, 1, 9);
        x.unit(0);
        due.is("back to it", x.undo(), 1);
        due.is("as the later one", x.of(0, 1), 8);
    }

    /** What the image doesn't name goes on: the text, the paper, the tapes. */
    private static void imageLeaves() {
        DigOrder x = Due.withUnits(2);
        Due.feedAll(x, "a over");
        x.draw(1);
        x.tape(0, 1, 3);
        x.item(0, 1, 5);
        x.image();
        Due.feedAll(x, " b");
        x.tie(1, 0);
        x.draw(1);
        x.tape(0, 2, 4);
        x.item(0, 1, 6);
        x.undo();
        due.is("bytes of the text", x.count(2), 8);
        due.is("the text", x.read(), 1);
        due.is("the paper", Due.paperOf(x), "b|a");
        due.is("the tape", x.peek(0, 1), 6);
        due.is("its row", x.peek(0, 3), 0);
        x.undo();
        due.is("an empty text", x.read(), -100);
    }
}
