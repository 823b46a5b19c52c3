/**
 * Each refusal of each call: with what lies just beyond each bound and far beyond it, which one is
 * answered where several apply, and that what is answered so changes nothing. A later argument
 * told as * may be refused too, so such a row says which refusal comes first.
 */
public final class RefusalsTest {
    private static final Due due = new Due("RefusalsTest");
    private static final long NONE = -1, BAD = -2, STATE = -3, FULL = -4, NO = Long.MIN_VALUE;
    private static final long NOTHING = -11, CAST = -12, PLACE = -13, SIZE = -14;

    private static Stage stage;
    private static DigOrder x;
    private static Rows rows;

    public static void main(String[] args) {
        for (Stage each : Stage.values()) {
            stage = each;
            everywhere();
        }
        newOnes();
        used();
        usedOrders();
        ring();
        full();
        due.end();
    }

    private static void begin() {
        x = stage.make();
        rows = new Rows(due, x, stage.name());
    }

    /** What all that was refused since begin() changed shows here. */
    private static void end(String calls) {
        due.is(stage + ": after what was refused of " + calls, Look.through(x), Look.through(stage.make()));
    }

    private static void refused(long want, String... calls) {
        begin();
        for (String call : calls) {
            rows.due(call, want);
        }
        end(calls[0]);
    }

    /** What is refused in every state, as no state's numbers are in it. */
    private static void everywhere() {
        refused(BAD, "unit !0..5");
        refused(NONE, "set !0..11 * *", "set * !0..4 *");
        refused(NONE, "of !0..11 *", "of * !0..5");
        refused(NONE, "tie !0..11 *", "tie * !0..11", "untie !0..11 *", "untie * !0..11");
        for (int u = 0; u < 12; u++) {
            refused(NONE, "tie " + u + " " + u, "untie " + u + " " + u);
        }
        refused(NONE, "told !0..6");
        refused(NONE, "below !0..11 *", "below * !0..4");
        refused(NONE, "cycle <-1", "level !0..11", "idle <0", "proof <0");
        refused(NONE, "over !0..5 *", "over * !0..5", "rank !0..5");
        for (int p = 0; p < 6; p++) {
            refused(NONE, "over " + p + " " + p);
        }
        refused(NONE, "bounds !0..11 *", "bounds * !0..1", "rate !0..11");
        refused(NO, "middle !0..11", "age !0..5 *", "age * !0..1");
        refused(NONE, "dig !0..11", "dug <0", "order <0 *", "order * <0", "order * >11");
        refused(NONE, "tray !0..2 * *", "tray * * !-1..11", "held !0..2 * *", "held * * !0..1");
        refused(PLACE, "tray 0..2 !0..3 -1", "held 0..2 !0..3 0..1");
        refused(BAD, "feed !0..127");
        refused(NONE, "draw !0..1", "paper <0");
        refused(NONE, "see !-1..11 * *", "see 0..11 !0..11 *", "fits !0..1");
        refused(NONE, "event !-1..3 *", "event 0..3 !0..11");
        refused(NO, "after !0..1");
        refused(NONE, "judge !0..5 *");
        refused(BAD, "count !0..3");
        refused(NONE, "tape !0..5 * *", "item !0..5 * *", "shift !0..5 * 0..1 0 *", "shift 0..5 * !0..5 -1..0 *");
        refused(BAD, "tape 0..5 !-1..4 *", "tape 0..5 0..4 >60");
        refused(SIZE, "tape 0..5 0..4 <0");
        refused(NO, "peek !0..5 *");
    }

    private static void newOnes() {
        stage = Stage.NEW;
        refused(NONE, "set * * *", "of * *", "tie * *", "untie * *", "below * *", "level *", "bounds * *", "rate *");
        refused(NO, "middle *", "age * *");
        refused(NONE, "dig *", "order * *");
        refused(STATE, "lay", "undo");
        refused(NONE, "tray * * 0..11", "tray * * <-1", "see 0..11 * *", "event 0..3 *");
        refused(NOTHING, "item 0..5 * *", "shift 0..5 * 0..5 0 *", "shift 0..5 0 0..5 * 1");
        refused(NO, "peek 0..5 *");
    }

    private static void used() {
        stage = Stage.USED;
        refused(NONE, "set 5..11 * *", "of 5..11 *", "tie 5..11 *", "tie * 5..11", "untie 5..11 *", "untie * 5..11",
            "below 5..11 *", "level 5..11", "bounds 5..11 *", "rate 5..11", "dig 5..11", "tray * * 5..11",
            "see 5..11 * *", "see 0..4 5..11 *", "event 0..3 5..11");
        refused(NO, "middle 5..11", "age 0 0..1", "age 2 0..1", "age 4..5 0..1");
        refused(BAD, "set 0..4 0 !0..5", "set 0..4 1 !0..99", "set 0..4 2..3 !0..2000", "set 0..4 4 !-1..5");
        refused(STATE, "tie 0 1", "tie 2 1", "tie 1 4", "tie 0 4");
        refused(STATE, "untie 1 0", "untie 1 2", "untie 4 1", "untie 4 0", "untie 2 3", "untie 3 4");
        refused(STATE, "dig 0", "dig 1", "dig 3", "dig 4");
        refused(PLACE, "tray 0..2 !0..3 0..4");
        refused(CAST, "tray 1 0..3 0", "tray 1 0..3 2..3", "tray 2 0..3 0..2", "tray 2 0..3 4");
        refused(CAST, "judge 0 *", "judge 2..4 *");
        refused(NOTHING, "item 5 * *", "shift 5 * 0..5 * 0..1", "shift 0..5 * 5 * 0..1");
        refused(NO, "peek 5 *", "peek 0 !0..2", "peek 1 !0..4", "peek 2 *", "peek 3 !0..3", "peek 4 !0..1");
        refused(PLACE, "item 0 !0..2 *", "item 1 !0..4 *", "item 2 * *", "item 3 !0..3 *", "item 4 !0..1 *");
        refused(CAST, "shift 0 * 1..4 * 1", "shift 1 * 0 * *", "shift 1 * 2..4 * 0", "shift 4 * 0..3 * -1");
        refused(PLACE, "shift 1 !0..5 1 0 *", "shift 1 0 1 !0..5 *", "shift 1 0..5 1 0..5 !0..5");
        refused(PLACE, "shift 1 5 1 0 1..5", "shift 1 0 1 5 1..5", "shift 1 4 1 0 2..5", "shift 1 3 1 1 3");
        refused(PLACE, "shift 2 0 2 0 !0", "shift 2 !0 2 0 0", "shift 2 0 2 !0 0", "shift 2 1 2 0 0");
        refused(PLACE, "shift 1 >0 1 0 2147483647", "shift 1 0 1 >0 2147483647", "shift 1 >5 1 >5 >5");
    }

    /** 1, 2 and 4 are left, of which 2 holds 1 back and 1 holds 4. */
    private static void usedOrders() {
        stage = Stage.USED;
        begin();
        due.is("lawful orders", x.orders(), 1);
        rows.due("order >0 *", NONE);
        rows.due("order 0 >2", NONE);
        rows.due("order 0 <0", NONE);
        end("order");
    }

    private static void ring() {
        stage = Stage.RING;
        refused(STATE, "level 0..4", "bounds 0..4 0..1", "rate 0..4");
        refused(NO, "middle 0..4", "age 0..5 0..1");
        refused(NONE, "order * *", "level 5..11", "bounds 5..11 0..1", "bounds 0..4 !0..1", "rate 5..11");
        refused(STATE, "dig 0..1", "dig 3..4");
        refused(CAST, "judge 0 *", "judge 2..4 *");
        refused(STATE, "judge 1 *", "judge 5 *");
    }

    private static void full() {
        stage = Stage.FULL;
        refused(FULL, "unit 0..5");
        refused(NONE, "tie 12 *");
        refused(STATE, "tie 0 1..11", "tie 1 2..11", "tie 2 3..11", "tie 3 4..11", "tie 4 5..6");
        refused(FULL, "tie 4 7..11", "tie 5..11 0..4", "tie 5 6..11", "tie 1..4 0", "tie 11 10");
        refused(STATE, "untie 4 7..11", "untie 5..11 0..4", "untie 5 6..11", "untie 1..4 0");
        refused(STATE, "dig 0..11");
        refused(NONE, "order * *");
        refused(FULL, "feed 0..127");
        refused(FULL, "see 0..11 0..11 *");
        refused(FULL, "event 0..3 0..11");
        refused(PLACE, "item 0..5 !0..59 *", "tray 0..2 !0..3 -1..11");
        refused(NO, "peek 0..5 !0..59");
        refused(CAST, "shift 0 * 1 * *", "shift 1 * 2..5 * 1");
        refused(PLACE, "shift 0 0 5 1 60", "shift 0 1 5 0 60", "shift 5 60 0 60 1", "shift 3 59 3 0 2",
            "shift 3 0 3 59 2", "shift 3 61 3 0 0", "shift 3 0 3 61 0", "shift 3 0 3 0 61");
        refused(CAST, "tray 1 0..3 0", "tray 1 0..3 2..3", "tray 1 0..3 5..6", "tray 2 0..3 0..2", "tray 2 0..3 4..8");
        refused(CAST, "judge 0 *", "judge 2..5 *");
    }
}
