import java.lang.reflect.InvocationTargetException;
import java.lang.reflect.Method;
import java.util.ArrayList;
import java.util.LinkedHashSet;
import java.util.List;
import java.util.Set;

/**
 * Rows of calls in few words: the call's name, then each argument, and what is due.
 * An argument is a number (3), a range (0..4: all of it), what lies below (&lt;0), above (&gt;4) or
 * on either side of one (!0..4: up to the very ends), or anything (*).
 */
final class Rows {
    private static final long[] STEPS = {1, 2, 3, 7, 28, 32, 33, 64, 128, 256, 1000, 32768, 65536, 1L << 30};
    private static final long[] LONG_STEPS = {1L << 31, 1L << 32, (1L << 32) + 1, 1L << 62};
    private static final long[] ANY = {-65536, -14, -5, -2, -1, 0, 1, 2, 4, 5, 7, 12, 60, 61, 2001};

    private final Due due;
    private final DigOrder x;
    private final String where;

    Rows(Due due, DigOrder x, String where) {
        this.due = due;
        this.x = x;
        this.where = where;
    }

    /** Each call that the row stands for is made, and each is held against what is due. */
    void due(String row, long want) {
        String[] part = row.split(" ");
        Method call = null;
        for (Method m : DigOrder.class.getMethods()) {
            call = m.getDeclaringClass() == DigOrder.class && m.getName().equals(part[0]) ? m : call;
        }
        if (call == null || call.getParameterCount() != part.length - 1) {
            throw new IllegalArgumentException("no such call: " + row);
        }
        List<List<Object>> values = new ArrayList<>();
        for (int i = 1; i < part.length; i++) {
            values.add(valuesOf(part[i], call.getParameterTypes()[i - 1]));
        }
        make(call, values, new Object[values.size()], 0, want);
    }

    private void make(Method call, List<List<Object>> values, Object[] chosen, int at, long want) {
        if (at < chosen.length) {
            for (Object value : values.get(at)) {
                chosen[at] = value;
                make(call, values, chosen, at + 1, want);
            }
            return;
        }
        String text = where + ": " + call.getName() + java.util.Arrays.toString(chosen);
        try {
            due.is(text, ((Number) call.invoke(x, chosen)).longValue(), want);
        } catch (InvocationTargetException e) {
            due.is(text + " threw", "" + e.getCause(), "" + want);
        } catch (IllegalAccessException e) {
            throw new IllegalStateException(e);
        }
    }

    private static List<Object> valuesOf(String words, Class<?> type) {
        if (type == boolean.class) {
            return List.of(true, false);
        }
        boolean isLong = type == long.class;
        Set<Long> found = new LinkedHashSet<>();
        String range = words.replaceFirst("^[!<>]", "");
        if (words.equals("*")) {
            for (long v : ANY) {
                found.add(v);
            }
            below(found, 0, isLong, 0);
            above(found, 0, isLong, 0);
        } else {
            String[] ends = range.split("\\.\\.");
            long low = Long.parseLong(ends[0]);
            long high = Long.parseLong(ends[ends.length - 1]);
            if (words.startsWith("<") || words.startsWith("!")) {
                below(found, low, isLong, STEPS.length);
            }
            if (words.startsWith(">") || words.startsWith("!")) {
                above(found, high, isLong, STEPS.length);
            }
            for (long v = low; range.equals(words) && v <= high; v++) {
                found.add(v);
            }
        }
        List<Object> values = new ArrayList<>();
        for (long v : found) {
            if (isLong) {
                values.add(v);
            } else {
                values.add((int) v);
            }
        }
        return values;
    }

    private static void below(Set<Long> found, long end, boolean isLong, int steps) {
        for (int i = 0; i < steps; i++) {
            found.add(end - STEPS[i]);
        }
        found.add((long) Integer.MIN_VALUE);
        found.add(Integer.MIN_VALUE + 1L);
        for (int i = 0; isLong && i < LONG_STEPS.length; i++) {
            found.add(end - LONG_STEPS[i]);
        }
        if (isLong) {
            found.add(Long.MIN_VALUE);
        }
    }

    private static void above(Set<Long> found, long end, boolean isLong, int steps) {
        for (int i = 0; i < steps; i++) {
            found.add(end + STEPS[i]);
        }
        found.add((long) Integer.MAX_VALUE);
        found.add(Integer.MAX_VALUE - 1L);
        for (int i = 0; isLong && i < LONG_STEPS.length; i++) {
            found.add(end + LONG_STEPS[i]);
        }
        if (isLong) {
            found.add(Long.MAX_VALUE);
        }
    }
}
