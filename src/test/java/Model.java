import java.util.ArrayList;
import java.util.Arrays;
import java.util.HashMap;
import java.util.List;
import java.util.Map;
import java.util.TreeSet;
import java.util.regex.Matcher;
import java.util.regex.Pattern;

/**
 * The document once more, by its definitions and in the slowest way, with the Java library:
 * RandomRunsTest holds DigOrder against it. It shares no code and no way of holding the state.
 */
final class Model {
    private static final int[] LOW = {0, 0, 0, 0, -1};
    private static final int[] HIGH = {5, 99, 2000, 2000, 5};

    /** What the image holds. */
    static final class State {
        List<int[]> units = new ArrayList<>();
        List<List<Integer>> ties = new ArrayList<>();
        List<Integer> dug = new ArrayList<>();
        int[][][] trays = new int[3][4][];
        List<int[]> seen = new ArrayList<>();
        List<int[]> events = new ArrayList<>();

        State copy() {
            State c = new State();
            for (int[] u : units) {
                c.units.add(u.clone());
            }
            c.ties.addAll(ties);
            c.dug.addAll(dug);
            for (int t = 0; t < 3; t++) {
                c.trays[t] = trays[t].clone();
            }
            c.seen.addAll(seen);
            c.events.addAll(events);
            return c;
        }
    }

    private State now = new State();
    private State image = null;
    private StringBuilder text = new StringBuilder();
    private String paper = "";
    private final Object[] tapes = new Object[6];

    // ---- definitions

    private static boolean linked(State s, int a, int b) {
        return s.ties.contains(List.of(a, b));
    }

    /** By a walk over the ties, from those right below on. */
    private static TreeSet<Integer> reached(State s, int from) {
        TreeSet<Integer> found = new TreeSet<>();
        List<Integer> open = new ArrayList<>(List.of(from));
        while (!open.isEmpty()) {
            int u = open.remove(open.size() - 1);
            for (List<Integer> tie : s.ties) {
                if (tie.get(0) == u && found.add(tie.get(1))) {
                    open.add(tie.get(1));
                }
            }
        }
        return found;
    }

    private static boolean reaches(State s, int a, int b) {
        return reached(s, a).contains(b);
    }

    private static boolean ring(State s) {
        return !shown(s).isEmpty();
    }

    /** All chains from the least one, the shorter first, each list of them by numbers. */
    private static List<Integer> shown(State s) {
        for (int first = 0; first < s.units.size(); first++) {
            if (!reaches(s, first, first)) {
                continue;
            }
            List<List<Integer>> chains = new ArrayList<>();
            chains.add(List.of(first));
            while (true) {
                List<List<Integer>> longer = new ArrayList<>();
                for (List<Integer> chain : chains) {
                    int last = chain.get(chain.size() - 1);
                    if (linked(s, last, first)) {
                        return chain;
                    }
                    for (int u = 0; u < s.units.size(); u++) {
                        if (linked(s, last, u) && !chain.contains(u)) {
                            List<Integer> more = new ArrayList<>(chain);
                            more.add(u);
                            longer.add(more);
                        }
                    }
                }
                chains = longer;
            }
        }
        return List.of();
    }

    private static List<List<Integer>> reduced(State s) {
        if (ring(s)) {
            return s.ties;
        }
        List<List<Integer>> kept = new ArrayList<>();
        for (List<Integer> tie : s.ties) {
            boolean idle = false;
            for (int c = 0; c < s.units.size(); c++) {
                if (c != tie.get(0) && c != tie.get(1)) {
                    idle |= reaches(s, tie.get(0), c) && reaches(s, c, tie.get(1));
                }
            }
            if (!idle) {
                kept.add(tie);
            }
        }
        return kept;
    }

    private static int levelOf(State s, int u) {
        int level = 0;
        for (List<Integer> tie : s.ties) {
            if (tie.get(0) == u) {
                level = Math.max(level, 1 + levelOf(s, tie.get(1)));
            }
        }
        return level;
    }

    private static int earliest(State s, int u) {
        int year = s.units.get(u)[2];
        for (int v : reached(s, u)) {
            year = Math.max(year, s.units.get(v)[2]);
        }
        return year;
    }

    private static int latest(State s, int u) {
        int year = s.units.get(u)[3];
        for (int v = 0; v < s.units.size(); v++) {
            if (reaches(s, v, u)) {
                year = Math.min(year, s.units.get(v)[3]);
            }
        }
        return year;
    }

    private static double mid(State s, int u) {
        return ((double) earliest(s, u) + (double) latest(s, u)) / 2.0;
    }

    private static List<Integer> ofPhase(State s, int p) {
        List<Integer> found = new ArrayList<>();
        for (int u = 0; u < s.units.size(); u++) {
            if (s.units.get(u)[4] == p) {
                found.add(u);
            }
        }
        return found;
    }

    private static boolean touches(State s, int p, int q) {
        for (int a : ofPhase(s, p)) {
            for (int b : ofPhase(s, q)) {
                if (reaches(s, a, b)) {
                    return true;
                }
            }
        }
        return false;
    }

    private static boolean isOver(State s, int p, int q) {
        return touches(s, p, q) && !touches(s, q, p);
    }

    private static List<Integer> proofOf(State s) {
        List<Integer> ring = shown(s);
        if (!ring.isEmpty()) {
            return List.of(1, ring.get(0), ring.size());
        }
        List<List<Integer>> kept = reduced(s);
        for (int u = 0; u < s.units.size(); u++) {
            int kind = s.units.get(u)[0];
            boolean bare = kind == 2 || kind == 5;
            for (List<Integer> tie : kept) {
                int under = s.units.get(tie.get(1))[0];
                bare &= tie.get(0) != u || under != 1 && under != 4;
            }
            if (bare) {
                return List.of(2, u);
            }
        }
        for (int p = 0; p < 6; p++) {
            for (int q = p + 1; q < 6; q++) {
                if (touches(s, p, q) && touches(s, q, p)) {
                    for (int a : ofPhase(s, p)) {
                        for (int b : ofPhase(s, q)) {
                            if (reaches(s, a, b)) {
                                return List.of(3, 10 * p + q, 100 * a + b);
                            }
                        }
                    }
                }
            }
        }
        for (int u = 0; u < s.units.size(); u++) {
            if (earliest(s, u) > latest(s, u)) {
                return List.of(4, u, earliest(s, u) - latest(s, u));
            }
        }
        return List.of(0);
    }

    private static boolean free(State s, TreeSet<Integer> gone, int u) {
        if (gone.contains(u)) {
            return false;
        }
        for (List<Integer> tie : s.ties) {
            if (tie.get(1) == u && !gone.contains(tie.get(0))) {
                return false;
            }
        }
        return true;
    }

    private static long ways(State s, TreeSet<Integer> gone, Map<TreeSet<Integer>, Long> known) {
        if (gone.size() == s.units.size()) {
            return 1;
        }
        Long before = known.get(gone);
        if (before != null) {
            return before;
        }
        long sum = 0;
        for (int u = 0; u < s.units.size(); u++) {
            if (free(s, gone, u)) {
                TreeSet<Integer> then = new TreeSet<>(gone);
                then.add(u);
                sum += ways(s, then, known);
            }
        }
        known.put(gone, sum);
        return sum;
    }

    private static long ordersOf(State s) {
        return ring(s) ? 0 : ways(s, new TreeSet<>(s.dug), new HashMap<>());
    }

    // ---- calls

    private boolean isUnit(int u) {
        return u >= 0 && u < now.units.size();
    }

    int unit(int kind) {
        if (kind < 0 || kind > 5) {
            return -2;
        }
        if (now.units.size() == 12) {
            return -4;
        }
        now.units.add(new int[] {kind, 1, 0, 2000, -1});
        return now.units.size() - 1;
    }

    int set(int unit, int what, int v) {
        if (!isUnit(unit) || what < 0 || what > 4) {
            return -1;
        }
        if (v < LOW[what] || v > HIGH[what]) {
            return -2;
        }
        int was = of(unit, what);
        now.units.get(unit)[what] = v;
        return was;
    }

    int of(int unit, int what) {
        if (!isUnit(unit) || what < 0 || what > 5) {
            return -1;
        }
        if (what == 5) {
            return now.dug.contains(unit) ? 1 : 0;
        }
        int v = now.units.get(unit)[what];
        return v == -1 ? -5 : v;
    }

    int tie(int a, int b) {
        if (!isUnit(a) || !isUnit(b) || a == b) {
            return -1;
        }
        if (linked(now, a, b)) {
            return -3;
        }
        if (now.ties.size() == 40) {
            return -4;
        }
        now.ties.add(List.of(a, b));
        return now.ties.size();
    }

    int untie(int a, int b) {
        if (!isUnit(a) || !isUnit(b) || a == b) {
            return -1;
        }
        return now.ties.remove(List.of(a, b)) ? now.ties.size() : -3;
    }

    int told(int what) {
        int n = now.units.size();
        int number = 0;
        switch (what) {
            case 0: return n;
            case 1: return now.ties.size();
            case 2: return reduced(now).size();
            case 3:
                if (ring(now)) {
                    return -5;
                }
                TreeSet<Integer> levels = new TreeSet<>();
                for (int u = 0; u < n; u++) {
                    levels.add(levelOf(now, u));
                }
                return levels.size();
            case 4:
                for (int u = 0; u < n; u++) {
                    number += reaches(now, u, u) ? 1 : 0;
                }
                return number;
            case 5: return now.dug.size();
            case 6:
                for (int p = 0; p < 6; p++) {
                    number += ofPhase(now, p).isEmpty() ? 0 : 1 << p;
                }
                return number;
            default: return -1;
        }
    }

    int below(int unit, int what) {
        if (!isUnit(unit) || what < 0 || what > 4) {
            return -1;
        }
        int bits = 0;
        for (int u = 0; u < now.units.size(); u++) {
            boolean is = what == 0 ? linked(now, unit, u)
                : what == 1 ? reaches(now, unit, u)
                : what == 2 ? reduced(now).contains(List.of(unit, u))
                : what == 3 ? linked(now, u, unit)
                : reaches(now, u, unit);
            bits += is ? 1 << u : 0;
        }
        return bits;
    }

    int cycle(int i) {
        if (i < -1) {
            return -1;
        }
        List<Integer> ring = shown(now);
        return i == -1 ? ring.size() : i < ring.size() ? ring.get(i) : -5;
    }

    int level(int unit) {
        return !isUnit(unit) ? -1 : ring(now) ? -3 : levelOf(now, unit);
    }

    int idle(int k) {
        if (k < 0) {
            return -1;
        }
        List<List<Integer>> idle = new ArrayList<>(now.ties);
        idle.removeAll(reduced(now));
        return k < idle.size() ? 100 * idle.get(k).get(0) + idle.get(k).get(1) : -5;
    }

    int proof(int k) {
        if (k < 0) {
            return -1;
        }
        List<Integer> numbers = proofOf(now);
        return k < numbers.size() ? numbers.get(k) : -5;
    }

    int over(int p, int q) {
        if (p < 0 || p > 5 || q < 0 || q > 5 || p == q) {
            return -1;
        }
        return isOver(now, p, q) ? 1 : 0;
    }

    int rank(int phase) {
        if (phase < 0 || phase > 5) {
            return -1;
        }
        TreeSet<Integer> found = new TreeSet<>();
        List<Integer> open = new ArrayList<>(List.of(phase));
        while (!open.isEmpty()) {
            int p = open.remove(0);
            for (int q = 0; q < 6; q++) {
                if (q != p && isOver(now, p, q) && found.add(q)) {
                    open.add(q);
                }
            }
        }
        found.remove(phase);
        return found.size();
    }

    int bounds(int unit, int what) {
        if (!isUnit(unit) || what < 0 || what > 1) {
            return -1;
        }
        return ring(now) ? -3 : what == 0 ? earliest(now, unit) : latest(now, unit);
    }

    long middle(int unit) {
        return !isUnit(unit) || ring(now) ? Long.MIN_VALUE : Double.doubleToRawLongBits(mid(now, unit));
    }

    int rate(int unit) {
        if (!isUnit(unit)) {
            return -1;
        }
        if (ring(now)) {
            return -3;
        }
        int e = earliest(now, unit);
        int l = latest(now, unit);
        return Float.floatToRawIntBits(e > l ? 0.0f : (float) now.units.get(unit)[1] / (float) (l - e + 1));
    }

    long age(int phase, int what) {
        if (phase < 0 || phase > 5 || what < 0 || what > 1 || ofPhase(now, phase).isEmpty() || ring(now)) {
            return Long.MIN_VALUE;
        }
        double sum = 0.0;
        int thick = 0;
        for (int u : ofPhase(now, phase)) {
            sum += mid(now, u) * (double) now.units.get(u)[1];
            thick += now.units.get(u)[1];
        }
        double age = thick == 0 ? 0.0 : sum / (double) thick;
        return what == 0 ? Double.doubleToRawLongBits(age) : (long) (age + 0.5);
    }

    int dig(int unit) {
        if (!isUnit(unit)) {
            return -1;
        }
        if (!free(now, new TreeSet<>(now.dug), unit)) {
            return -3;
        }
        now.dug.add(unit);
        return now.dug.size();
    }

    int lay() {
        return now.dug.isEmpty() ? -3 : now.dug.remove(now.dug.size() - 1);
    }

    int dug(int k) {
        return k < 0 ? -1 : k < now.dug.size() ? now.dug.get(k) : -5;
    }

    long orders() {
        return ordersOf(now);
    }

    int order(long k, int i) {
        if (k < 0 || i < 0 || k >= ordersOf(now) || i >= now.units.size() - now.dug.size()) {
            return -1;
        }
        TreeSet<Integer> gone = new TreeSet<>(now.dug);
        Map<TreeSet<Integer>, Long> known = new HashMap<>();
        long left = k;
        for (int step = 0;; step++) {
            for (int u = 0; u < now.units.size(); u++) {
                if (!free(now, gone, u)) {
                    continue;
                }
                TreeSet<Integer> then = new TreeSet<>(gone);
                then.add(u);
                long behind = ways(now, then, known);
                if (left >= behind) {
                    left -= behind;
                    continue;
                }
                if (step == i) {
                    return u;
                }
                gone = then;
                break;
            }
        }
    }

    int tray(int tray, int place, int unit) {
        if (tray < 0 || tray > 2 || unit != -1 && !isUnit(unit)) {
            return -1;
        }
        if (place < 0 || place > 3) {
            return -13;
        }
        int kind = unit == -1 ? -1 : now.units.get(unit)[0];
        List<List<Integer>> takes = List.of(List.of(-1, 0, 1, 2, 3, 4, 5), List.of(-1, 1, 4), List.of(-1, 3));
        if (!takes.get(tray).contains(kind)) {
            return -12;
        }
        int[] was = now.trays[tray][place];
        now.trays[tray][place] = unit == -1 ? null : new int[] {unit, kind};
        return was == null ? -5 : was[0];
    }

    int held(int tray, int place, int what) {
        if (tray < 0 || tray > 2 || what < 0 || what > 1) {
            return -1;
        }
        if (place < 0 || place > 3) {
            return -13;
        }
        int[] row = now.trays[tray][place];
        return row == null ? -5 : row[what];
    }

    int feed(int sign) {
        if (sign < 0 || sign > 127) {
            return -2;
        }
        if (text.length() == 100) {
            return -4;
        }
        text.append((char) sign);
        return text.length();
    }

    int read() {
        String words = text.toString();
        text = new StringBuilder();
        int fault = fault(words);
        if (fault != 0) {
            return fault;
        }
        int done = 0;
        for (String sentence : words.split(";")) {
            String[] part = sentence.split(" ");
            done += does(part[0].charAt(0) - 'a', part[1], part[2].charAt(0) - 'a') ? 1 : 0;
        }
        return done;
    }

    /** What stands ahead of the fault is a beginning that goes on well, as long as can be. */
    private static int fault(String words) {
        String verb = "(?:over|under|cuts|fills|joins)(?![a-z])";
        String sentence = "[a-l] " + verb + " [a-l]";
        if (Pattern.matches(sentence + "(?:;" + sentence + "){0,7}", words)) {
            return 0;
        }
        String opened = "[a-l](?: (?:" + verb + "(?: (?:[a-l])?)?)?)?";
        Matcher m = Pattern.compile("(?:" + sentence + ";){0,7}(?:" + opened + ")?").matcher(words);
        if (!m.lookingAt()) {
            throw new IllegalStateException("the empty beginning always goes on well");
        }
        int place = m.end();
        boolean behindBlank = words.substring(0, place).matches("(?:.*;)?[a-l] ");
        boolean letter = place < words.length() && words.charAt(place) >= 'a' && words.charAt(place) <= 'z';
        return behindBlank && letter ? -300 - place : -100 - place;
    }

    private boolean does(int a, String verb, int b) {
        if (verb.equals("joins")) {
            if (!isUnit(a) || !isUnit(b)) {
                return false;
            }
            now.units.get(a)[4] = now.units.get(b)[4];
            return true;
        }
        if ((verb.equals("under") ? tie(b, a) : tie(a, b)) < 0) {
            return false;
        }
        if (verb.equals("cuts")) {
            now.units.get(a)[0] = 1;
        }
        if (verb.equals("fills")) {
            now.units.get(a)[0] = 2;
        }
        return true;
    }

    private static String letter(int u) {
        return "abcdefghijkl".substring(u, u + 1);
    }

    int draw(int how) {
        if (how < 0 || how > 1) {
            return -1;
        }
        List<String> parts = new ArrayList<>();
        if (how == 0) {
            for (List<Integer> tie : reduced(now)) {
                parts.add(letter(tie.get(0)) + ">" + letter(tie.get(1)));
            }
            parts.sort(null);
            paper = String.join(";", parts);
        } else if (ring(now)) {
            for (int u : shown(now)) {
                parts.add(letter(u));
            }
            parts.add(parts.get(0));
            paper = String.join(">", parts);
        } else {
            for (int level = 11; level >= 0; level--) {
                String row = "";
                for (int u = 0; u < now.units.size(); u++) {
                    row += levelOf(now, u) == level ? letter(u) : "";
                }
                if (!row.isEmpty()) {
                    parts.add(row);
                }
            }
            paper = String.join("|", parts);
        }
        return paper.length();
    }

    int paper(int i) {
        return i < 0 ? -1 : i < paper.length() ? paper.charAt(i) : -5;
    }

    int see(int a, int b, boolean is) {
        if (a == -1) {
            now.seen.clear();
            return 0;
        }
        if (!isUnit(a) || !isUnit(b)) {
            return -1;
        }
        if (now.seen.size() == 5) {
            return -4;
        }
        now.seen.add(new int[] {a, b, is ? 1 : 0});
        return now.seen.size();
    }

    int fits(int what) {
        if (what < 0 || what > 1) {
            return -1;
        }
        List<List<Integer>> fitting = new ArrayList<>();
        for (List<Integer> tie : now.ties) {
            State s = now.copy();
            s.ties.remove(tie);
            boolean all = true;
            for (int[] row : s.seen) {
                all &= reaches(s, row[0], row[1]) == (row[2] == 1);
            }
            if (all) {
                fitting.add(tie);
            }
        }
        if (what == 0) {
            return fitting.size();
        }
        return fitting.isEmpty() ? -5 : 100 * fitting.get(0).get(0) + fitting.get(0).get(1);
    }

    int event(int what, int n) {
        if (what == -1) {
            now.events.clear();
            return 0;
        }
        if (what < 0 || what > 3 || !isUnit(n)) {
            return -1;
        }
        if (now.events.size() == 8) {
            return -4;
        }
        now.events.add(new int[] {what, n});
        return now.events.size();
    }

    long after(int what) {
        if (what < 0 || what > 1) {
            return Long.MIN_VALUE;
        }
        State s = now.copy();
        for (int[] e : s.events) {
            if (e[0] == 0 && !s.dug.contains(e[1])) {
                s.dug.add(e[1]);
            } else if (e[0] == 1) {
                s.ties.removeIf(tie -> tie.get(0) == e[1]);
            } else if (e[0] >= 2) {
                s.units.get(e[1])[e[0]] = 1000;
            }
        }
        if (what == 0) {
            return ordersOf(s);
        }
        int crossing = 0;
        for (int u = 0; u < s.units.size(); u++) {
            crossing += earliest(s, u) > latest(s, u) ? 1 : 0;
        }
        return ring(s) ? -5 : crossing;
    }

    int judge(int tape, int i) {
        if (tape < 0 || tape > 5) {
            return -1;
        }
        if (tapes[tape] != null && !(tapes[tape] instanceof short[])) {
            return -12;
        }
        if (ring(now)) {
            return -3;
        }
        short[] row = tapes[tape] == null ? new short[0] : (short[]) tapes[tape];
        for (int u = 0; u < now.units.size(); u++) {
            long place = (long) i + u;
            if (i < 0 || place >= row.length) {
                return 100 + u;
            }
            if (row[(int) place] != earliest(now, u)) {
                return u;
            }
        }
        return -5;
    }

    int image() {
        image = now.copy();
        return now.units.size();
    }

    int undo() {
        if (image == null) {
            return -3;
        }
        now = image.copy();
        return now.units.size();
    }

    int count(int what) {
        int[] sizes = {now.seen.size(), now.events.size(), text.length(), paper.length()};
        return what < 0 || what > 3 ? -2 : sizes[what];
    }

    int tape(int tape, int sort, int n) {
        if (tape < 0 || tape > 5) {
            return -1;
        }
        if (sort == -1) {
            tapes[tape] = null;
            return 1;
        }
        if (sort < 0 || sort > 4 || n > 60) {
            return -2;
        }
        if (n < 0) {
            return -14;
        }
        tapes[tape] = sort == 0 ? new byte[n] : sort == 1 ? new short[n] : sort == 2 ? new int[n]
            : sort == 3 ? new long[n] : new boolean[n];
        return 1;
    }

    int item(int tape, int i, long v) {
        if (tape < 0 || tape > 5) {
            return -1;
        }
        Object row = tapes[tape];
        if (row == null) {
            return -11;
        }
        if (i < 0 || i >= java.lang.reflect.Array.getLength(row)) {
            return -13;
        }
        if (row instanceof byte[]) {
            ((byte[]) row)[i] = (byte) v;
        } else if (row instanceof short[]) {
            ((short[]) row)[i] = (short) v;
        } else if (row instanceof int[]) {
            ((int[]) row)[i] = (int) v;
        } else if (row instanceof long[]) {
            ((long[]) row)[i] = v;
        } else {
            ((boolean[]) row)[i] = v != 0;
        }
        return 1;
    }

    long peek(int tape, int i) {
        if (tape < 0 || tape > 5 || tapes[tape] == null) {
            return Long.MIN_VALUE;
        }
        Object row = tapes[tape];
        if (i < 0 || i >= java.lang.reflect.Array.getLength(row)) {
            return Long.MIN_VALUE;
        }
        if (row instanceof boolean[]) {
            return ((boolean[]) row)[i] ? 1 : 0;
        }
        return java.lang.reflect.Array.getLong(row, i);
    }

    int shift(int tape, int i, int other, int j, int n) {
        if (tape < 0 || tape > 5 || other < 0 || other > 5) {
            return -1;
        }
        if (tapes[tape] == null || tapes[other] == null) {
            return -11;
        }
        if (tapes[tape].getClass() != tapes[other].getClass()) {
            return -12;
        }
        long from = java.lang.reflect.Array.getLength(tapes[tape]);
        long to = java.lang.reflect.Array.getLength(tapes[other]);
        if (n < 0 || i < 0 || j < 0 || (long) i + n > from || (long) j + n > to) {
            return -13;
        }
        System.arraycopy(tapes[tape], i, tapes[other], j, n);
        return n;
    }

    @Override
    public String toString() {
        return now.units.size() + " units, ties " + now.ties + ", dug " + now.dug + ", paper '" + paper + "', events "
            + Arrays.deepToString(now.events.toArray());
    }
}
