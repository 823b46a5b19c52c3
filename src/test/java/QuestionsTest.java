import java.lang.reflect.Method;

/**
 * "What is asked changes nothing but THE PAPER", "changed by draw() alone": each question is asked
 * in each state, with arguments in and out of their bounds, and the object is as it was.
 */
public final class QuestionsTest {
    private static final Due due = new Due("QuestionsTest");
    private static final String[] QUESTIONS = {"of", "told", "below", "cycle", "level", "idle", "proof", "over", "rank",
        "bounds", "middle", "rate", "age", "dug", "orders", "order", "held", "paper", "fits", "after", "judge", "count",
        "peek"};
    private static final int[] ENDS = {Integer.MIN_VALUE, -2, -1, 0, 1, 2, 3, 4, 5, 6, 11, 12, 13, 40, 60, 160,
        Integer.MAX_VALUE};

    public static void main(String[] args) throws ReflectiveOperationException {
        for (Stage stage : Stage.values()) {
            for (String name : QUESTIONS) {
                DigOrder x = stage.make();
                askOften(x, name);
                due.is(stage + ": after " + name, Look.through(x), Look.through(stage.make()));
            }
            drawing(stage);
            imageAlone(stage);
            paperStays(stage);
        }
        due.end();
    }

    private static void askOften(DigOrder x, String name) throws ReflectiveOperationException {
        for (Method m : DigOrder.class.getMethods()) {
            if (m.getDeclaringClass() != DigOrder.class || !m.getName().equals(name)) {
                continue;
            }
            Class<?>[] types = m.getParameterTypes();
            for (int a : ENDS) {
                for (int b : types.length > 1 ? ENDS : new int[] {0}) {
                    Object[] row = new Object[types.length];
                    for (int i = 0; i < row.length; i++) {
                        int v = i == 0 ? a : b;
                        if (types[i] == long.class) {
                            row[i] = (long) v;
                        } else {
                            row[i] = i == 2 ? (Object) Math.floorMod(a, 2) : (Object) v;
                        }
                    }
                    m.invoke(x, row);
                }
            }
        }
    }

    /** draw() changes the paper alone. */
    private static void drawing(Stage stage) {
        for (int how = 0; how < 2; how++) {
            DigOrder x = stage.make();
            x.draw(how);
            due.is(stage + ": after draw(" + how + ")", Look.besidePaper(x), Look.besidePaper(stage.make()));
        }
    }

    /** image() changes nothing that can be seen ahead of undo(). */
    private static void imageAlone(Stage stage) {
        DigOrder x = stage.make();
        x.image();
        due.is(stage + ": after image()", Look.at(x), Look.at(stage.make()));
        x.undo();
        due.is(stage + ": after undo() right behind it", Look.at(x), Look.at(stage.make()));
    }

    /** What changes all else leaves the paper. */
    private static void paperStays(Stage stage) {
        DigOrder x = stage.make();
        String paper = Due.paperOf(x);
        x.untie(0, 1);
        x.tie(3, 4);
        x.unit(3);
        x.set(0, 0, 3);
        x.lay();
        x.dig(2);
        x.tray(0, 0, -1);
        x.feed('a');
        x.read();
        x.see(-1, 0, true);
        x.event(-1, 0);
        x.tape(0, 1, 9);
        x.item(0, 0, 5);
        x.shift(0, 0, 0, 1, 3);
        x.undo();
        x.image();
        due.is(stage + ": the paper", Due.paperOf(x), paper);
        due.is(stage + ": its bytes", x.count(3), paper.length());
    }
}
