import java.io.IOException;
import java.lang.reflect.Field;
import java.lang.reflect.Method;
import java.lang.reflect.Modifier;
import java.nio.charset.StandardCharsets;
import java.nio.file.Files;
import java.nio.file.Path;
import java.util.ArrayList;
import java.util.List;
import java.util.Map;
import java.util.Set;
import java.util.TreeMap;
import java.util.TreeSet;
import java.util.regex.Matcher;
import java.util.regex.Pattern;

/**
 * ../shared/LANGUAGE.md, as far as it can be read off DigOrder.java or the class made of it. The
 * class needs less than the rules leave (no exception, no list, no recursion), and that is held.
 */
public final class LanguageTest {
    private static final Due due = new Due("LanguageTest");
    private static final Path FILE = Path.of("src/main/java/DigOrder.java");
    private static final Set<String> PLAIN = Set.of("int", "long", "short", "byte", "char", "boolean", "double", "float");
    private static final Set<String> LIBRARY = Set.of("Math.max", "Math.min", "Integer.bitCount", "System.arraycopy");
    private static final Set<String> OF_TEXTS = Set.of("length", "charAt");
    private static final Pattern HEAD = Pattern.compile("    ( {4})?(?:\\w+(?:\\[\\])? )*(\\w+)\\(([^()]*)\\) \\{");

    public static void main(String[] args) throws IOException {
        String file = Files.readString(FILE, StandardCharsets.ISO_8859_1);
        signs(file);
        String code = bare(file);
        words(code);
        library(code);
        loops(code);
        methods(code);
        callsDeep(code);
        List<Class<?>> classes = new ArrayList<>(List.of(DigOrder.class.getDeclaredClasses()));
        classes.add(DigOrder.class);
        for (Class<?> c : classes) {
            classIs(c, classes);
        }
        due.is("rule 11: some twelve classes", classes.size() <= 12 ? 1 : 0, 1);
        due.end();
    }

    /** Rule 4: "constants, whose signs are 1 to 127". */
    private static void signs(String file) {
        int other = 0;
        for (int i = 0; i < file.length(); i++) {
            char c = file.charAt(i);
            other += c == '\n' || c >= 32 && c < 127 ? 0 : 1;
        }
        due.is("signs that are no plain ones", other, 0);
    }

    /** The code without its comments, and with empty texts. */
    private static String bare(String file) {
        String code = file.replaceAll("(?s)/\\*.*?\\*/", " ").replaceAll("//[^\n]*", " ");
        return code.replaceAll("'[^'\n]'", "'s'").replaceAll("\"[^\"\n]*\"", "\"\"");
    }

    /** Rules 1, 2, 6, 8, 10: what may not stand there, or need not. */
    private static void words(String code) {
        String[] none = {"package", "import", "throw", "throws", "try", "catch", "finally", "synchronized", "assert",
            "instanceof", "volatile", "transient", "native", "strictfp", "var", "protected", "null", "goto", "equals",
            "hashCode", "toString", "StringBuilder", "ArrayList", "List", "Object", "Thread", "yield"};
        for (String word : none) {
            due.is("the word " + word, Pattern.compile("\\b" + word + "\\b").matcher(code).find() ? 1 : 0, 0);
        }
        for (String sign : new String[] {"->", "::", "@", "static {", "...", ">>>="}) {
            due.is("the sign " + sign, code.contains(sign) ? 1 : 0, 0);
        }
        due.is("joining texts by +", Pattern.compile("\"\\s*\\+|\\+\\s*\"").matcher(code).find() ? 1 : 0, 0);
        int publicClasses = 0;
        Matcher m = Pattern.compile("(?m)^(.*)\\b(class|interface|enum|record) \\w+").matcher(code);
        while (m.find()) {
            publicClasses += m.group(1).contains("public") ? 1 : 0;
            due.is("rule 2: " + m.group(), m.group(1).contains("public") || m.group(1).contains("static") ? 1 : 0, 1);
        }
        due.is("public classes", publicClasses, 1);
    }

    /** Rule 4: "only what stands here". */
    private static void library(String code) {
        Matcher m = Pattern.compile("\\b([A-Z]\\w*)\\.(\\w+)\\(").matcher(code);
        while (m.find()) {
            boolean own = m.group(1).equals("Web");
            due.is("rule 4: " + m.group(), own || LIBRARY.contains(m.group(1) + "." + m.group(2)) ? 1 : 0, 1);
        }
        m = Pattern.compile("\\bword\\.(\\w+)\\(").matcher(code);
        while (m.find()) {
            due.is("rule 4: " + m.group(), OF_TEXTS.contains(m.group(1)) ? 1 : 0, 1);
        }
        m = Pattern.compile("(?m)^( *)(.*)\\bnew (\\w+)").matcher(code);
        while (m.find()) {
            // Rule 12: rows and parts are made with the object alone, so never within a method.
            due.is("made with the object: " + m.group(), m.group(2).contains("final") ? 1 : 0, 1);
        }
    }

    /** Rule 9: a loop has a counter against a bound in its own head (the item of a row is no counter). */
    private static void loops(String code) {
        Matcher m = Pattern.compile("\\b(while|for) \\(([^\n]*)\\) \\{").matcher(code);
        int loops = 0;
        while (m.find()) {
            loops++;
            String head = m.group(2);
            due.is("rule 9: " + m.group(), head.matches(".*(^|[ (])\\w+ (<|<=|>=) \\w.*") ? 1 : 0, 1);
            due.is("rule 9: " + m.group(), head.contains("true") || head.contains(";;") ? 1 : 0, 0);
        }
        due.is("loops found", loops, Pattern.compile("\\b(while|for|do)\\b").matcher(code).results().count());
    }

    private static Map<String, String> bodies(String code) {
        Map<String, String> found = new TreeMap<>();
        String[] lines = code.split("\n");
        for (int i = 0; i < lines.length; i++) {
            Matcher m = HEAD.matcher(lines[i]);
            if (!m.matches() || m.group(2).matches("if|for|while|switch|catch")) {
                continue;
            }
            String end = (m.group(1) == null ? "    " : "        ") + "}";
            StringBuilder body = new StringBuilder(m.group(3)).append('\n');
            int j = i + 1;
            while (!lines[j].equals(end)) {
                body.append(lines[j++]).append('\n');
            }
            found.merge(m.group(2), body.toString(), String::concat);
            due.is("rule 11: lines of " + m.group(2) + ": " + (j - i + 1), j - i + 1 <= 60 ? 1 : 0, 1);
        }
        return found;
    }

    /** Rule 11: "at most seven parameters", "some sixty lines" (looked at where the bodies are found). */
    private static void methods(String code) {
        Set<String> names = bodies(code).keySet();
        for (Method m : DigOrder.class.getDeclaredMethods()) {
            due.is("its body is found: " + m.getName(), names.contains(m.getName()) ? 1 : 0, 1);
        }
    }

    /** Rules 8 and 11: "calls that are no recursion go at most eight deep". Methods of one name count as one. */
    private static void callsDeep(String code) {
        Map<String, String> bodies = bodies(code);
        for (Method m : DigOrder.class.getDeclaredMethods()) {
            int deep = deep(m.getName(), bodies, new TreeSet<>());
            due.is("rule 11: " + m.getName() + " goes " + deep + " deep", deep <= 8 ? 1 : 0, 1);
        }
    }

    private static int deep(String name, Map<String, String> bodies, Set<String> open) {
        due.is("rule 8: " + name + " calls itself", open.contains(name) ? 1 : 0, 0);
        if (!open.add(name)) {
            return 1;
        }
        int most = 0;
        Matcher m = Pattern.compile("\\b(\\w+)\\(").matcher(bodies.get(name));
        while (m.find()) {
            if (bodies.containsKey(m.group(1))) {
                most = Math.max(most, deep(m.group(1), bodies, open));
            }
        }
        open.remove(name);
        return most + 1;
    }

    private static void classIs(Class<?> c, List<Class<?>> classes) {
        int fields = 0;
        for (Field f : c.getDeclaredFields()) {
            String name = c.getSimpleName() + "." + f.getName();
            if (Modifier.isStatic(f.getModifiers())) {
                Class<?> type = f.getType();
                boolean isPlain = type == int.class || type == long.class || type == boolean.class || type == int[].class;
                due.is("rule 5: " + name, isPlain && Modifier.isFinal(f.getModifiers()) ? 1 : 0, 1);
            } else {
                fields++;
                due.is("rule 3: " + name, isKnown(f.getType(), classes) ? 1 : 0, 1);
            }
        }
        due.is("rule 11: fields of " + c.getSimpleName() + ": " + fields, fields <= 20 ? 1 : 0, 1);
        for (Method m : c.getDeclaredMethods()) {
            String name = c.getSimpleName() + "." + m.getName();
            due.is("rule 11: parameters of " + name, m.getParameterCount() <= 7 ? 1 : 0, 1);
            for (Class<?> type : m.getParameterTypes()) {
                due.is("rule 3: parameters of " + name, isKnown(type, classes) ? 1 : 0, 1);
            }
            due.is("rule 3: " + name, m.getReturnType() == void.class || isKnown(m.getReturnType(), classes) ? 1 : 0, 1);
        }
    }

    /** Rule 3: "int, long, .., arrays of these and of your own classes, of one dimension", String. */
    private static boolean isKnown(Class<?> type, List<Class<?>> classes) {
        Class<?> item = type.isArray() ? type.getComponentType() : type;
        return PLAIN.contains(item.getName()) || classes.contains(item) || type == String.class;
    }
}
