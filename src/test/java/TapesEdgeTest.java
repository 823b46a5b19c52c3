/** "Terms", 3: tapes, what is judged, the host's refusals; a method for each boundary it names. */
public final class TapesEdgeTest {
    private static final Due due = new Due("TapesEdgeTest");

    public static void main(String[] args) {
        tapesAtFirst();
        sixTapes();
        sorts();
        sizes();
        nothingAgain();
        allZero();
        lowestBits();
        places();
        judgedOtherwise();
        judgedAtRowsEnd();
        judgedFarPlaces();
        judgedNothingThere();
        judgedTwelve();
        judgedShortsAlone();
        judgedWithCycle();
        shiftWhole();
        shiftOverlapping();
        shiftNone();
        shiftBeyond();
        shiftWrap();
        shiftSorts();
        shiftOrder();
        countEnds();
        due.end();
    }

    /** "TAPES 0 .. 5 hold nothing (at first)". */
    private static void tapesAtFirst() {
        DigOrder x = new DigOrder();
        for (int tape = 0; tape < 6; tape++) {
            due.is("item", x.item(tape, 0, 1), -11);
            due.is("peek", x.peek(tape, 0), DigOrder.NO);
            due.is("shift", x.shift(tape, 0, tape, 0, 0), -11);
        }
    }

    private static void sixTapes() {
        DigOrder x = new DigOrder();
        for (int tape = 0; tape < 6; tape++) {
            due.is("tape " + tape, x.tape(tape, 3, 1), 1);
            due.is("item", x.item(tape, 0, tape + 10), 1);
        }
        for (int tape = 0; tape < 6; tape++) {
            due.is("peek", x.peek(tape, 0), tape + 10);
        }
        for (int tape : new int[] {-1, 6, 7, Integer.MIN_VALUE, Integer.MAX_VALUE}) {
            due.is("tape", x.tape(tape, 0, 0), -1);
            due.is("tape with nothing", x.tape(tape, -1, 0), -1);
            due.is("item", x.item(tape, 0, 0), -1);
            due.is("peek", x.peek(tape, 0), DigOrder.NO);
            due.is("judge", x.judge(tape, 0), -1);
            due.is("shift", x.shift(tape, 0, 0, 0, 0), -1);
            due.is("shift to it", x.shift(0, 0, tape, 0, 0), -1);
        }
    }

    /** "0 bytes, 1 shorts, 2 ints, 3 longs, 4 booleans". */
    private static void sorts() {
        DigOrder x = new DigOrder();
        due.is("sort 0", x.tape(0, 0, 1), 1);
        due.is("sort 4", x.tape(0, 4, 2), 1);
        due.is("sort 5", x.tape(0, 5, 3), -2);
        due.is("sort -2", x.tape(0, -2, 3), -2);
        due.is("it stays", x.item(0, 2, 1), -13);
        due.is("booleans still", x.item(0, 1, 9), 1);
        due.is("1", x.peek(0, 1), 1);
        due.is("bad sort ahead of size", x.tape(0, 5, -1), -2);
        due.is("bad sort and n", x.tape(0, 5, 61), -2);
    }

    /** "A TAPE becomes a row of n (0 .. 60)". */
    private static void sizes() {
        for (int sort = 0; sort <= 4; sort++) {
            DigOrder x = new DigOrder();
            due.is("n 0", x.tape(5, sort, 0), 1);
            due.is("no place", x.item(5, 0, 1), -13);
            due.is("no item", x.peek(5, 0), DigOrder.NO);
            due.is("n 60", x.tape(5, sort, 60), 1);
            due.is("the last", x.item(5, 59, 1), 1);
            due.is("no place", x.item(5, 60, 1), -13);
            due.is("n 61", x.tape(5, sort, 61), -2);
            due.is("n greatest", x.tape(5, sort, Integer.MAX_VALUE), -2);
            due.is("n -1", x.tape(5, sort, -1), -14);
            due.is("n least", x.tape(5, sort, Integer.MIN_VALUE), -14);
            due.is("it stays", x.peek(5, 59), 1);
        }
    }

    /** "or holds nothing (sort -1: n does not matter)". */
    private static void nothingAgain() {
        DigOrder x = new DigOrder();
        for (int n : new int[] {0, 60, 61, -1, Integer.MAX_VALUE, Integer.MIN_VALUE}) {
            x.tape(0, 1, 5);
            due.is("nothing", x.tape(0, -1, n), 1);
            due.is("item", x.item(0, 0, 1), -11);
            due.is("peek", x.peek(0, 0), DigOrder.NO);
            due.is("nothing once more", x.tape(0, -1, n), 1);
        }
    }

    /** "all 0", also where another row stood. */
    private static void allZero() {
        DigOrder x = new DigOrder();
        x.tape(0, 3, 60);
        x.tape(1, 3, 60);
        for (int i = 0; i < 60; i++) {
            x.item(0, i, -1);
            x.item(1, i, -2);
        }
        x.tape(0, 3, 30);
        x.tape(0, 3, 60);
        for (int i = 0; i < 60; i++) {
            due.is("all 0", x.peek(0, i), 0);
            due.is("the next tape", x.peek(1, i), -2);
        }
        x.item(0, 59, 5);
        x.tape(0, -1, 0);
        x.tape(0, 3, 60);
        due.is("behind nothing", x.peek(0, 59), 0);
    }

    /** "(its lowest bits, as many as an item has; booleans: whether v is not 0)". */
    private static void lowestBits() {
        DigOrder x = new DigOrder();
        long[] values = {0, 1, 127, 128, 255, 256, 257, -1, -128, -129, 32767, 32768, 65535, 65536, -32768, -32769,
            2147483647L, 2147483648L, 4294967295L, 4294967296L, -2147483648L, -2147483649L, Long.MAX_VALUE, Long.MIN_VALUE};
        long[] bytes = {0, 1, 127, -128, -1, 0, 1, -1, -128, 127, -1, 0, -1, 0, 0, -1, -1, 0, -1, 0, 0, -1, -1, 0};
        long[] shorts = {0, 1, 127, 128, 255, 256, 257, -1, -128, -129, 32767, -32768, -1, 0, -32768, 32767,
            -1, 0, -1, 0, 0, -1, -1, 0};
        long[] ints = {0, 1, 127, 128, 255, 256, 257, -1, -128, -129, 32767, 32768, 65535, 65536, -32768, -32769,
            2147483647L, -2147483648L, -1, 0, -2147483648L, 2147483647L, -1, 0};
        for (int sort = 0; sort <= 4; sort++) {
            x.tape(sort, sort, 1);
        }
        for (int i = 0; i < values.length; i++) {
            for (int sort = 0; sort <= 4; sort++) {
                due.is("item", x.item(sort, 0, values[i]), 1);
            }
            due.is("byte of " + values[i], x.peek(0, 0), bytes[i]);
            due.is("short of " + values[i], x.peek(1, 0), shorts[i]);
            due.is("int of " + values[i], x.peek(2, 0), ints[i]);
            due.is("long of " + values[i], x.peek(3, 0), values[i]);
            due.is("boolean of " + values[i], x.peek(4, 0), i == 0 ? 0 : 1);
        }
    }

    /** "PLACE (-13): no such place". */
    private static void places() {
        DigOrder x = new DigOrder();
        x.tape(2, 2, 3);
        x.tape(3, 2, 3);
        due.is("the first", x.item(2, 0, 5), 1);
        due.is("the last", x.item(2, 2, 6), 1);
        for (int i : new int[] {-1, 3, 4, 60, 63, -60, Integer.MIN_VALUE, Integer.MAX_VALUE}) {
            due.is("item " + i, x.item(2, i, 7), -13);
            due.is("peek " + i, x.peek(2, i), DigOrder.NO);
        }
        for (int i = 0; i < 3; i++) {
            due.is("the tape", x.peek(2, i), i == 0 ? 5 : i == 1 ? 0 : 6);
            due.is("the next tape", x.peek(3, i), 0);
        }
    }

    /** "EARLIEST of all UNITS told by a row of shorts, from a place on, one by one: the first that is otherwise". */
    private static void judgedOtherwise() {
        DigOrder x = Due.withUnits(3);
        x.tie(0, 2);
        x.set(2, 2, 2000);
        x.set(0, 2, 5);
        x.tape(0, 1, 4);
        x.item(0, 1, 2000);
        x.item(0, 3, 2000);
        due.is("as told", x.judge(0, 1), -5);
        due.is("from the start on", x.judge(0, 0), 0);
        x.item(0, 3, 1999);
        due.is("the last by one less", x.judge(0, 1), 2);
        x.item(0, 3, 2001);
        due.is("the last by one more", x.judge(0, 1), 2);
        x.item(0, 2, 1);
        due.is("two are otherwise", x.judge(0, 1), 1);
        x.item(0, 1, 5);
        due.is("its own from isn't the earliest", x.judge(0, 1), 0);
    }

    /** "100 and how many were looked at, if the row ends ahead of that". */
    private static void judgedAtRowsEnd() {
        DigOrder x = Due.withUnits(3);
        x.tape(0, 1, 3);
        due.is("just enough", x.judge(0, 0), -5);
        due.is("two are there", x.judge(0, 1), 102);
        due.is("one is there", x.judge(0, 2), 101);
        due.is("none is there", x.judge(0, 3), 100);
        x.item(0, 2, 1);
        due.is("otherwise ahead of the end", x.judge(0, 1), 1);
        due.is("otherwise, the only one", x.judge(0, 2), 0);
        x.tape(0, 1, 0);
        due.is("a row of none", x.judge(0, 0), 100);
        x.tape(5, 1, 60);
        due.is("the last three places", x.judge(5, 57), -5);
        due.is("two of them", x.judge(5, 58), 102);
        due.is("the last one", x.judge(5, 59), 101);
        due.is("behind it", x.judge(5, 60), 100);
    }

    /** "(or the place is below 0": no sum may wrap round, nor may a tape go over into the next. */
    private static void judgedFarPlaces() {
        DigOrder x = Due.withUnits(12);
        for (int tape = 0; tape < 6; tape++) {
            x.tape(tape, 1, 60);
        }
        int[] places = {-1, -2, -11, -12, -60, 60, 61, 63, 120, Integer.MIN_VALUE, Integer.MIN_VALUE + 11,
            Integer.MAX_VALUE, Integer.MAX_VALUE - 1, Integer.MAX_VALUE - 11, Integer.MAX_VALUE - 60};
        for (int i : places) {
            for (int tape = 0; tape < 6; tape++) {
                due.is("judge " + tape + " from " + i, x.judge(tape, i), 100);
            }
        }
        due.is("just enough", x.judge(1, 48), -5);
        due.is("one less", x.judge(1, 49), 111);
    }

    /** "or the TAPE holds nothing)"; it is no CAST. */
    private static void judgedNothingThere() {
        DigOrder x = Due.withUnits(1);
        for (int i : new int[] {0, -1, 1, 60, Integer.MIN_VALUE, Integer.MAX_VALUE}) {
            due.is("nothing at first", x.judge(0, i), 100);
        }
        x.tape(0, 1, 1);
        due.is("a row", x.judge(0, 0), -5);
        x.tape(0, -1, 0);
        due.is("nothing again", x.judge(0, 0), 100);
    }

    private static void judgedTwelve() {
        DigOrder x = Due.withUnits(12);
        x.tape(2, 1, 12);
        for (int u = 0; u < 12; u++) {
            x.set(u, 2, 100 + u);
            x.item(2, u, 100 + u);
        }
        due.is("all as told", x.judge(2, 0), -5);
        for (int u = 11; u >= 0; u--) {
            x.item(2, u, 99 + u);
            due.is("unit " + u, x.judge(2, 0), u);
        }
    }

    /** "CAST: it is no row of shorts". */
    private static void judgedShortsAlone() {
        DigOrder x = Due.withUnits(1);
        for (int sort = 0; sort <= 4; sort++) {
            x.tape(sort, sort, 2);
            due.is("sort " + sort, x.judge(sort, 0), sort == 1 ? -5 : -12);
            due.is("sort " + sort + ", place below 0", x.judge(sort, -1), sort == 1 ? 100 : -12);
            x.tape(sort, sort, 0);
            due.is("a row of none, sort " + sort, x.judge(sort, 0), sort == 1 ? 100 : -12);
        }
    }

    /** "NONE: tape; CAST: it is no row of shorts; STATE: a CYCLE." */
    private static void judgedWithCycle() {
        DigOrder x = Due.withUnits(2);
        x.tie(0, 1);
        x.tie(1, 0);
        x.tape(0, 0, 2);
        x.tape(1, 1, 2);
        due.is("none", x.judge(6, 0), -1);
        due.is("cast", x.judge(0, 0), -12);
        due.is("state", x.judge(1, 0), -3);
        due.is("state, place below 0", x.judge(1, -1), -3);
        due.is("state, nothing there", x.judge(2, 0), -3);
    }

    private static DigOrder twoRows() {
        DigOrder x = new DigOrder();
        x.tape(0, 2, 6);
        x.tape(1, 2, 4);
        for (int i = 0; i < 6; i++) {
            x.item(0, i, i + 1);
            x.item(1, i, -i - 1);
        }
        return x;
    }

    private static String row(DigOrder x, int tape) {
        StringBuilder text = new StringBuilder();
        for (int i = 0; x.peek(tape, i) != DigOrder.NO; i++) {
            text.append(x.peek(tape, i)).append(' ');
        }
        return text.toString().trim();
    }

    private static void shiftWhole() {
        DigOrder x = twoRows();
        due.is("all of the lesser one", x.shift(1, 0, 0, 2, 4), 4);
        due.is("to the end", row(x, 0), "1 2 -1 -2 -3 -4");
        due.is("where they came from", row(x, 1), "-1 -2 -3 -4");
        due.is("from the end", x.shift(0, 5, 1, 0, 1), 1);
        due.is("to the start", row(x, 1), "-4 -2 -3 -4");
        due.is("onto itself", x.shift(0, 0, 0, 0, 6), 6);
        due.is("it stays", row(x, 0), "1 2 -1 -2 -3 -4");
    }

    /** "(or the same) from j on, as they all were before". */
    private static void shiftOverlapping() {
        DigOrder x = twoRows();
        due.is("up by one", x.shift(0, 0, 0, 1, 5), 5);
        due.is("up", row(x, 0), "1 1 2 3 4 5");
        DigOrder y = twoRows();
        due.is("down by one", y.shift(0, 1, 0, 0, 5), 5);
        due.is("down", row(y, 0), "2 3 4 5 6 6");
        DigOrder z = twoRows();
        due.is("up by two", z.shift(0, 1, 0, 3, 3), 3);
        due.is("up by two", row(z, 0), "1 2 3 2 3 4");
    }

    /** No items at all come from and to any place, the end too. */
    private static void shiftNone() {
        DigOrder x = twoRows();
        x.tape(2, 2, 0);
        due.is("at the start", x.shift(0, 0, 1, 0, 0), 0);
        due.is("at both ends", x.shift(0, 6, 1, 4, 0), 0);
        due.is("behind the end", x.shift(0, 7, 1, 4, 0), -13);
        due.is("behind the other's end", x.shift(0, 6, 1, 5, 0), -13);
        due.is("a row of none", x.shift(2, 0, 2, 0, 0), 0);
        due.is("one of a row of none", x.shift(2, 0, 0, 0, 1), -13);
        due.is("one to a row of none", x.shift(0, 0, 2, 0, 1), -13);
        due.is("behind a row of none", x.shift(2, 1, 0, 0, 0), -13);
        due.is("all stays", row(x, 0) + " " + row(x, 1), "1 2 3 4 5 6 -1 -2 -3 -4");
    }

    /** "PLACE: n, i or j is below 0, or beyond either's end." */
    private static void shiftBeyond() {
        DigOrder x = twoRows();
        due.is("n -1", x.shift(0, 0, 1, 0, -1), -13);
        due.is("n -1 at the ends", x.shift(0, 6, 1, 4, -1), -13);
        due.is("i -1", x.shift(0, -1, 1, 0, 1), -13);
        due.is("i -1, none", x.shift(0, -1, 1, 0, 0), -13);
        due.is("j -1", x.shift(0, 0, 1, -1, 1), -13);
        due.is("j -1, none", x.shift(0, 0, 1, -1, 0), -13);
        due.is("one beyond the first", x.shift(1, 1, 0, 0, 4), -13);
        due.is("one beyond the other", x.shift(0, 0, 1, 1, 4), -13);
        due.is("longer than the other", x.shift(0, 0, 1, 0, 5), -13);
        due.is("longer than the first", x.shift(1, 0, 0, 0, 5), -13);
        due.is("longer than the same", x.shift(0, 0, 0, 0, 7), -13);
        due.is("at the end", x.shift(0, 6, 1, 0, 1), -13);
        due.is("at the other's end", x.shift(0, 0, 1, 4, 1), -13);
        due.is("all stays", row(x, 0) + " " + row(x, 1), "1 2 3 4 5 6 -1 -2 -3 -4");
    }

    private static void shiftWrap() {
        DigOrder x = twoRows();
        int[] far = {Integer.MAX_VALUE, Integer.MAX_VALUE - 1, Integer.MAX_VALUE - 5, Integer.MIN_VALUE,
            Integer.MIN_VALUE + 1, 1 << 30, -(1 << 30)};
        int[] near = {0, 1, 2, 4, 6};
        for (int f : far) {
            for (int n : near) {
                due.is("i far", x.shift(0, f, 1, 0, n), -13);
                due.is("j far", x.shift(0, 0, 1, f, n), -13);
                due.is("n far", x.shift(0, n, 1, n, f), -13);
            }
            for (int g : far) {
                due.is("i and n far", x.shift(0, f, 1, 0, g), -13);
                due.is("j and n far", x.shift(0, 0, 1, f, g), -13);
                due.is("i and j far", x.shift(0, f, 1, g, 1), -13);
            }
        }
        due.is("all stays", row(x, 0) + " " + row(x, 1), "1 2 3 4 5 6 -1 -2 -3 -4");
    }

    /** "CAST: of unlike sorts". */
    private static void shiftSorts() {
        DigOrder x = new DigOrder();
        for (int sort = 0; sort <= 4; sort++) {
            x.tape(sort, sort, 3);
            x.item(sort, 1, 1);
        }
        for (int a = 0; a <= 4; a++) {
            for (int b = 0; b <= 4; b++) {
                due.is("from " + a + " to " + b, x.shift(a, 1, b, 2, 1), a == b ? 1 : -12);
            }
            due.is("row " + a, row(x, a), "0 1 1");
        }
    }

    /** "NONE: tapes; NOTHING; CAST: of unlike sorts; PLACE". */
    private static void shiftOrder() {
        DigOrder x = twoRows();
        x.tape(2, 3, 4);
        due.is("none ahead of nothing", x.shift(3, 0, 6, 0, 1), -1);
        due.is("none ahead of nothing", x.shift(-1, 0, 3, 0, 1), -1);
        due.is("none ahead of place", x.shift(6, -1, 0, 0, 1), -1);
        due.is("nothing ahead of place", x.shift(3, -1, 0, 0, 1), -11);
        due.is("nothing in the other ahead of place", x.shift(0, -1, 3, 0, 1), -11);
        due.is("nothing in both", x.shift(3, 0, 4, 0, 0), -11);
        due.is("cast ahead of place", x.shift(0, -1, 2, 0, 1), -12);
        due.is("cast, none of them", x.shift(0, 0, 2, 0, 0), -12);
        due.is("place", x.shift(0, -1, 1, 0, 1), -13);
    }

    /** "How many: 0 SEEN, 1 EVENTS, 2 bytes of THE TEXT, 3 of THE PAPER. BAD." */
    private static void countEnds() {
        DigOrder x = Stage.FULL.make();
        int[] want = {5, 8, 100, Due.paperOf(x).length()};
        for (int what = 0; what < 4; what++) {
            due.is("empty", new DigOrder().count(what), 0);
            due.is("full", x.count(what), want[what]);
        }
        due.is("count(4)", x.count(4), -2);
        due.is("count(-1)", x.count(-1), -2);
        due.is("count at the very end", x.count(Integer.MAX_VALUE), -2);
    }
}
