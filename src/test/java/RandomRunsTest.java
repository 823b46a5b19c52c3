import java.lang.reflect.InvocationTargetException;
import java.lang.reflect.Method;
import java.util.ArrayList;
import java.util.Arrays;
import java.util.Comparator;
import java.util.List;
import java.util.Random;

/**
 * Promises 1 to 41: runs of calls, always the same ones, held against Model. With the questions
 * of askAll a run goes on past the 512 calls of the document, which DigOrder bears.
 */
public final class RandomRunsTest {
    private static final Due due = new Due("RandomRunsTest");
    private static final String[] TEXTS = {"a over b", "b cuts c", "c fills b", "d joins a", "a under e", "e over f",
        "f joins f", "l over a", "a over a", "a digs b", "a over", "a ov", " ", "b  over c", "c under d", "a over m", ""};

    private final Random random;
    private final DigOrder x = new DigOrder();
    private final Model model = new Model();
    private final List<Method> calls = new ArrayList<>();
    private final int units;
    private final boolean downward;
    private int number = 0;

    private RandomRunsTest(long seed) {
        random = new Random(seed);
        units = 1 + random.nextInt(12);
        downward = random.nextInt(4) != 0;
        for (Method m : DigOrder.class.getDeclaredMethods()) {
            if (java.lang.reflect.Modifier.isPublic(m.getModifiers())) {
                calls.add(m);
            }
        }
        calls.sort(Comparator.comparing(Method::getName));
    }

    public static void main(String[] args) throws ReflectiveOperationException {
        int runs = args.length > 0 ? Integer.parseInt(args[0]) : 400;
        for (int seed = 0; seed < runs; seed++) {
            new RandomRunsTest(seed).run();
        }
        due.end();
    }

    private void run() throws ReflectiveOperationException {
        begin();
        while (number < 480) {
            int way = random.nextInt(20);
            if (way == 0) {
                sayWords();
            } else if (way == 1) {
                askAll();
            } else if (way <= 4) {
                ask("tie", pair());
            } else {
                Method m = calls.get(random.nextInt(calls.size()));
                ask(m.getName(), arguments(m));
            }
        }
    }

    private void begin() throws ReflectiveOperationException {
        int at = 1 + random.nextInt(units);
        for (int u = 0; u < at; u++) {
            ask("unit", random.nextInt(6));
        }
        int ties = random.nextInt(2 * at + 1);
        for (int t = 0; t < ties; t++) {
            ask("tie", pair());
        }
        for (int u = 0; u < at; u++) {
            ask("set", u, 4, random.nextInt(4) - 1);
            ask("set", u, 2, random.nextInt(1200));
            ask("set", u, 3, 800 + random.nextInt(1200));
            ask("set", u, 1, random.nextInt(100));
        }
    }

    private Object[] pair() {
        int a = random.nextInt(units + 1);
        int b = random.nextInt(units + 1);
        boolean turn = downward && random.nextInt(12) != 0 && a > b;
        return turn ? new Object[] {b, a} : new Object[] {a, b};
    }

    private Object[] arguments(Method m) {
        Class<?>[] types = m.getParameterTypes();
        Object[] row = new Object[types.length];
        for (int i = 0; i < types.length; i++) {
            if (types[i] == boolean.class) {
                row[i] = random.nextBoolean();
            } else if (types[i] == long.class) {
                row[i] = m.getName().equals("order") ? smallLong() : random.nextLong() >> random.nextInt(64);
            } else {
                row[i] = m.getName().equals("feed") ? random.nextInt(130) - 1 : number(m.getName(), i);
            }
        }
        return row;
    }

    private Long smallLong() {
        long orders = model.orders();
        return orders > 0 && random.nextInt(8) != 0 ? Math.floorMod(random.nextLong(), orders) : random.nextLong();
    }

    private Integer number(String name, int place) {
        switch (random.nextInt(24)) {
            case 0: return -1 - random.nextInt(2);
            case 1: return random.nextInt();
            case 2: return random.nextInt(70);
            case 3: return random.nextInt(2) == 0 ? Integer.MAX_VALUE : Integer.MIN_VALUE;
            default: break;
        }
        if (name.equals("tape") && place == 2 || name.equals("shift") && place == 4) {
            return random.nextInt(20);
        }
        if (name.equals("set") && place == 2) {
            return random.nextInt(3) == 0 ? random.nextInt(2001) : random.nextInt(7) - 1;
        }
        return random.nextInt(random.nextInt(3) == 0 ? units + 1 : 6);
    }

    private void sayWords() throws ReflectiveOperationException {
        int sentences = 1 + random.nextInt(random.nextInt(4) == 0 ? 10 : 3);
        StringBuilder text = new StringBuilder();
        for (int s = 0; s < sentences; s++) {
            text.append(s == 0 ? "" : ";").append(TEXTS[random.nextInt(random.nextInt(3) == 0 ? TEXTS.length : 9)]);
        }
        if (random.nextInt(5) == 0 && text.length() > 0) {
            text.setCharAt(random.nextInt(text.length()), "ab zo;>A".charAt(random.nextInt(8)));
        }
        for (int i = 0; i < text.length() && i < 100; i++) {
            ask("feed", (int) text.charAt(i));
        }
        ask("read");
    }

    /** Every question once, with what it may be asked of. */
    private void askAll() throws ReflectiveOperationException {
        for (String name : new String[] {"told", "cycle", "idle", "proof", "rank", "dug", "count"}) {
            for (int i = -1; i < 8; i++) {
                askQuietly(name, i);
            }
        }
        for (int u = 0; u < units; u++) {
            for (String name : new String[] {"level", "middle", "rate"}) {
                askQuietly(name, u);
            }
            for (int what = 0; what < 6; what++) {
                askQuietly("of", u, what);
                askQuietly("below", u, what);
                askQuietly("bounds", u, what % 2);
                askQuietly("over", u % 6, what);
                askQuietly("age", what, u % 2);
            }
        }
        for (int how = 0; how < 2; how++) {
            askQuietly("draw", how);
            for (int i = 0; i <= 160; i++) {
                askQuietly("paper", i);
            }
            askQuietly("fits", how);
            askQuietly("after", how);
        }
        askQuietly("orders");
        Long k = smallLong();
        for (int i = 0; i < 13; i++) {
            askQuietly("order", k, i);
            askQuietly("held", i % 3, i % 4, i % 2);
        }
    }

    private void ask(String name, Object... arguments) throws ReflectiveOperationException {
        number++;
        askQuietly(name, arguments);
    }

    private void askQuietly(String name, Object... arguments) throws ReflectiveOperationException {
        Method call = null;
        for (Method m : calls) {
            call = m.getName().equals(name) ? m : call;
        }
        Method same = Model.class.getDeclaredMethod(name, call.getParameterTypes());
        String text = name + Arrays.toString(arguments);
        long want = ((Number) same.invoke(model, arguments)).longValue();
        try {
            due.is(text + " with " + model, ((Number) call.invoke(x, arguments)).longValue(), want);
        } catch (InvocationTargetException e) {
            due.is(text + " threw " + e.getCause(), 0, 1);
        }
    }
}
