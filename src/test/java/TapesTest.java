/** Promises 34 to 41: judge, image, undo, count, tape, item, peek, shift. */
public final class TapesTest {
    private static final Due due = new Due("TapesTest");

    public static void main(String[] args) {
        judge();
        judgeRefuses();
        image();
        imageHolds();
        count();
        tape();
        item();
        peek();
        shift();
        shiftRefuses();
        due.end();
    }

    private static void judge() {
        DigOrder x = Due.withUnits(3);
        x.tie(0, 1);
        x.set(1, 2, 700);
        x.set(2, 2, 5);
        x.tape(4, 1, 5);
        x.item(4, 1, 700);
        x.item(4, 2, 700);
        x.item(4, 3, 5);
        due.is("as told", x.judge(4, 1), -5);
        due.is("the first is otherwise", x.judge(4, 0), 0);
        due.is("the second is otherwise", x.judge(4, 2), 1);
        x.item(4, 4, 700);
        x.item(4, 3, 700);
        due.is("the third is otherwise", x.judge(4, 1), 2);
        due.is("two looked at", x.judge(4, 3), 102);
        due.is("one looked at", x.judge(4, 4), 101);
        due.is("none looked at", x.judge(4, 5), 100);
        due.is("far behind", x.judge(4, Integer.MAX_VALUE), 100);
        due.is("place below 0", x.judge(4, -1), 100);
        due.is("place far below 0", x.judge(4, Integer.MIN_VALUE), 100);
        due.is("a tape with nothing", x.judge(0, 0), 100);
        x.tape(0, 1, 0);
        due.is("an empty row", x.judge(0, 0), 100);
        x.tape(0, 1, 3);
        x.item(0, 0, 65536 + 700);
        due.is("its lowest bits", x.judge(0, 0), 1);
        x.item(0, 0, 700);
        x.tape(0, -1, 0);
        due.is("nothing any more", x.judge(0, 0), 100);
        x.tape(0, 1, 60);
        x.item(0, 58, 700);
        x.item(0, 59, 700);
        due.is("at a long tape's end", x.judge(0, 58), 102);
    }

    private static void judgeRefuses() {
        DigOrder x = new DigOrder();
        due.is("no units", x.judge(0, 0), -5);
        due.is("no units, no place", x.judge(0, -1), -5);
        due.is("tape 6", x.judge(6, 0), DigOrder.NONE);
        due.is("tape -1", x.judge(-1, 0), DigOrder.NONE);
        for (int sort = 0; sort <= 4; sort++) {
            x.tape(1, sort, 3);
            due.is("sort " + sort, x.judge(1, 0), sort == 1 ? -5 : -12);
        }
        x.unit(0);
        x.unit(0);
        x.tie(0, 1);
        x.tie(1, 0);
        due.is("cast ahead of state", x.judge(1, 0), -12);
        due.is("a cycle", x.judge(0, 0), DigOrder.STATE);
        due.is("a cycle, no place", x.judge(0, -1), DigOrder.STATE);
        due.is("none ahead of state", x.judge(6, 0), DigOrder.NONE);
    }

    private static void image() {
        DigOrder x = new DigOrder();
        due.is("no image", x.undo(), DigOrder.STATE);
        due.is("of nothing", x.image(), 0);
        x.unit(0);
        x.unit(0);
        due.is("back to nothing", x.undo(), 0);
        due.is("no units", x.told(0), 0);
        x.unit(3);
        due.is("another image", x.image(), 1);
        x.unit(1);
        due.is("back to it", x.undo(), 1);
        x.unit(2);
        due.is("back once more", x.undo(), 1);
        due.is("its kind", x.of(0, 0), 3);
    }

    private static void imageHolds() {
        DigOrder x = Due.withUnits(4);
        x.set(2, 0, 1);
        x.set(2, 1, 9);
        x.set(2, 4, 4);
        x.tie(2, 1);
        x.tie(0, 1);
        x.dig(2);
        x.dig(0);
        x.tray(1, 2, 2);
        x.see(0, 1, true);
        x.event(0, 3);
        Due.feedAll(x, "ab");
        x.tape(0, 2, 4);
        due.is("image", x.image(), 4);
        x.set(2, 0, 3);
        x.set(2, 1, 8);
        x.set(2, 4, -1);
        x.untie(2, 1);
        x.tie(1, 3);
        x.lay();
        x.lay();
        x.tray(1, 2, -1);
        x.tray(0, 0, 3);
        x.see(0, 0, true);
        x.event(-1, 0);
        x.unit(5);
        x.feed('c');
        x.item(0, 1, 77);
        x.draw(1);
        int paper = x.count(3);
        due.is("undo", x.undo(), 4);
        due.is("kind", x.of(2, 0), 1);
        due.is("thick", x.of(2, 1), 9);
        due.is("phase", x.of(2, 4), 4);
        due.is("ties", x.told(1), 2);
        due.is("the tie without which all seen is so", x.fits(1), 201);
        due.is("below 1", x.below(1, 3), 5);
        due.is("dug first", x.dug(0), 2);
        due.is("dug then", x.dug(1), 0);
        due.is("held", x.held(1, 2, 0), 2);
        due.is("held as", x.held(1, 2, 1), 1);
        due.is("not held", x.held(0, 0, 0), -5);
        due.is("seen", x.count(0), 1);
        due.is("events", x.count(1), 1);
        due.is("the text goes on", x.count(2), 3);
        due.is("the paper goes on", x.count(3), paper);
        due.is("tapes go on", x.peek(0, 1), 77);
        due.is("after", x.after(0), 1);
        x.see(-1, 0, true);
        due.is("the eldest tie", x.fits(1), 201);
    }

    private static void count() {
        DigOrder x = Due.withUnits(2);
        x.see(0, 1, true);
        x.event(0, 0);
        x.event(0, 1);
        Due.feedAll(x, "abc");
        x.tie(0, 1);
        x.draw(0);
        int[] want = {1, 2, 3, 3};
        for (int what = 0; what < 4; what++) {
            due.is("count(" + what + ")", x.count(what), want[what]);
        }
        x.draw(1);
        x.untie(0, 1);
        x.draw(1);
        due.is("count(3)", x.count(3), 2);
        due.is("count(4)", x.count(4), DigOrder.BAD);
        due.is("count(-1)", x.count(-1), DigOrder.BAD);
    }

    private static void tape() {
        DigOrder x = new DigOrder();
        due.is("tape 6", x.tape(6, 0, 0), DigOrder.NONE);
        due.is("tape -1", x.tape(-1, 0, 0), DigOrder.NONE);
        due.is("none ahead of bad", x.tape(6, 5, 61), DigOrder.NONE);
        due.is("sort 5", x.tape(0, 5, 0), DigOrder.BAD);
        due.is("sort -2", x.tape(0, -2, 0), DigOrder.BAD);
        due.is("n 61", x.tape(0, 0, 61), DigOrder.BAD);
        due.is("n -1", x.tape(0, 0, -1), -14);
        due.is("n least", x.tape(0, 0, Integer.MIN_VALUE), -14);
        due.is("bad ahead of size", x.tape(0, 5, -1), DigOrder.BAD);
        due.is("nothing came of it", x.item(0, 0, 0), -11);
        due.is("n 60", x.tape(0, 3, 60), 1);
        due.is("the last", x.item(0, 59, 5), 1);
        due.is("behind it", x.item(0, 60, 5), -13);
        due.is("anew", x.tape(0, 3, 60), 1);
        due.is("all 0", x.peek(0, 59), 0);
        x.item(0, 0, 5);
        x.tape(0, 3, 2);
        due.is("the first is 0, too", x.peek(0, 0), 0);
        due.is("n 0", x.tape(0, 4, 0), 1);
        due.is("no place", x.item(0, 0, 1), -13);
        due.is("a refusal", x.tape(0, 1, 61), DigOrder.BAD);
        due.is("still empty, not nothing", x.item(0, 0, 1), -13);
        due.is("nothing, n above", x.tape(0, -1, 61), 1);
        due.is("nothing there", x.item(0, 0, 1), -11);
        due.is("nothing, n below", x.tape(0, -1, -1), 1);
        x.tape(1, 0, 10);
        x.item(1, 5, 9);
        x.tape(1, 0, 3);
        x.tape(1, 0, 10);
        due.is("all 0 when grown", x.peek(1, 5), 0);
    }

    private static void item() {
        DigOrder x = new DigOrder();
        long[] values = {0, 1, -1, 127, 128, 255, 256, 32767, 32768, 65536, 2147483647L, 2147483648L, 4294967296L,
            Long.MAX_VALUE, Long.MIN_VALUE, -129, 0x1234567890abcdefL};
        for (int sort = 0; sort <= 4; sort++) {
            x.tape(sort, sort, 2);
            for (long v : values) {
                long want = sort == 0 ? (byte) v : sort == 1 ? (short) v : sort == 2 ? (int) v : sort == 3 ? v : v != 0 ? 1 : 0;
                due.is("item", x.item(sort, 1, v), 1);
                due.is(v + " of sort " + sort, x.peek(sort, 1), want);
                due.is("the other", x.peek(sort, 0), 0);
            }
        }
        due.is("tape 6", x.item(6, 0, 0), DigOrder.NONE);
        due.is("tape -1", x.item(-1, 0, 0), DigOrder.NONE);
        due.is("nothing", x.item(5, -1, 0), -11);
        due.is("place -1", x.item(0, -1, 0), -13);
        due.is("place 2", x.item(0, 2, 0), -13);
        due.is("place far", x.item(0, Integer.MAX_VALUE, 0), -13);
    }

    private static void peek() {
        DigOrder x = new DigOrder();
        due.is("nothing", x.peek(0, 0), DigOrder.NO);
        due.is("tape 6", x.peek(6, 0), DigOrder.NO);
        due.is("tape -1", x.peek(-1, 0), DigOrder.NO);
        x.tape(0, 2, 1);
        due.is("there", x.peek(0, 0), 0);
        due.is("place 1", x.peek(0, 1), DigOrder.NO);
        due.is("place -1", x.peek(0, -1), DigOrder.NO);
        due.is("place far", x.peek(0, Integer.MIN_VALUE), DigOrder.NO);
    }

    private static void rowIs(DigOrder x, int tape, int... items) {
        for (int i = 0; i < items.length; i++) {
            due.is("item " + i + " of tape " + tape, x.peek(tape, i), items[i]);
        }
        due.is("behind its end", x.peek(tape, items.length), DigOrder.NO);
    }

    private static DigOrder numbered() {
        DigOrder x = new DigOrder();
        x.tape(0, 2, 5);
        x.tape(5, 2, 3);
        for (int i = 0; i < 5; i++) {
            x.item(0, i, i + 1);
        }
        return x;
    }

    private static void shift() {
        DigOrder x = numbered();
        due.is("to another", x.shift(0, 1, 5, 0, 3), 3);
        rowIs(x, 5, 2, 3, 4);
        rowIs(x, 0, 1, 2, 3, 4, 5);
        due.is("up the same", x.shift(0, 0, 0, 1, 4), 4);
        rowIs(x, 0, 1, 1, 2, 3, 4);
        due.is("down the same", x.shift(0, 1, 0, 0, 4), 4);
        rowIs(x, 0, 1, 2, 3, 4, 4);
        due.is("none at the end", x.shift(0, 5, 5, 3, 0), 0);
        due.is("all", x.shift(5, 0, 0, 2, 3), 3);
        rowIs(x, 0, 1, 2, 2, 3, 4);
    }

    private static void shiftRefuses() {
        DigOrder x = numbered();
        x.tape(1, 3, 5);
        due.is("tape 6", x.shift(6, 0, 0, 0, 1), DigOrder.NONE);
        due.is("tape -1", x.shift(-1, 0, 0, 0, 1), DigOrder.NONE);
        due.is("other 6", x.shift(0, 0, 6, 0, 1), DigOrder.NONE);
        due.is("other -1", x.shift(2, 0, -1, 0, 1), DigOrder.NONE);
        due.is("nothing there", x.shift(2, 0, 0, 0, 1), -11);
        due.is("nothing in the other", x.shift(0, 0, 2, 0, 1), -11);
        due.is("nothing ahead of place", x.shift(0, 9, 2, 0, 1), -11);
        due.is("unlike sorts", x.shift(0, 0, 1, 0, 1), -12);
        due.is("cast ahead of place", x.shift(0, 9, 1, 0, -1), -12);
        int far = Integer.MAX_VALUE;
        int[][] beyond = {{-1, 0, 1}, {0, -1, 1}, {0, 0, -1}, {5, 0, 1}, {3, 0, 3}, {0, 3, 1}, {0, 1, 3}, {6, 0, 0},
            {0, 4, 0}, {far, 0, 1}, {0, far, 1}, {1, 1, far}, {far, far, far}, {-far - 1, 0, 0}, {0, 0, -far - 1}};
        for (int[] b : beyond) {
            due.is("place " + b[0] + " " + b[1] + " " + b[2], x.shift(0, b[0], 5, b[1], b[2]), -13);
        }
        rowIs(x, 0, 1, 2, 3, 4, 5);
        rowIs(x, 5, 0, 0, 0);
    }
}
