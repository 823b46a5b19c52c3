import java.io.IOException;
import java.lang.reflect.InvocationTargetException;
import java.lang.reflect.Method;
import java.net.URL;
import java.net.URLClassLoader;
import java.nio.file.Files;
import java.nio.file.Path;
import java.util.ArrayList;
import java.util.List;
import java.util.regex.Matcher;
import java.util.regex.Pattern;

/**
 * README.md: its Java examples are compiled as they stand there and run, and each call answers what
 * the comment behind it says; its table has every call with its parameters and its refusals.
 */
public final class ReadmeTest {
    private static final Due due = new Due("ReadmeTest");
    /** A statement, and what is due: the number with which its comment begins. */
    private static final Pattern ANSWERED = Pattern.compile("(\\S.*);\\s*// (-?[0-9.]*[0-9])(?::.*)?");
    private static final Pattern ROW = Pattern.compile("\\| `(\\w+)\\(([^)]*)\\)` \\| (.+) \\| ([A-Z, ]*)\\|");

    /** The refusals of each call in the document's order. */
    private static final String REFUSALS = "unit BAD,FULL set NONE,BAD of NONE tie NONE,STATE,FULL untie NONE,STATE "
        + "told NONE below NONE cycle NONE level NONE,STATE idle NONE proof NONE over NONE rank NONE "
        + "bounds NONE,STATE middle NO rate NONE,STATE age NO dig NONE,STATE lay STATE dug NONE orders - order NONE "
        + "tray NONE,PLACE,CAST held NONE,PLACE feed BAD,FULL read - draw NONE paper NONE see NONE,FULL fits NONE "
        + "event NONE,FULL after NO judge NONE,CAST,STATE image - undo STATE count BAD tape NONE,BAD,SIZE "
        + "item NONE,NOTHING,PLACE peek NO shift NONE,NOTHING,CAST,PLACE";

    public static void main(String[] args) throws Exception {
        List<String> lines = Files.readAllLines(Path.of("README.md"));
        examples(lines);
        table(lines);
        testsAreNamed(lines);
        due.end();
    }

    // ---- the examples

    private static void examples(List<String> lines) throws Exception {
        StringBuilder program = new StringBuilder("public final class ReadmeExamples {\n");
        List<String> answered = new ArrayList<>();
        int blocks = 0;
        boolean inside = false;
        for (int i = 0; i < lines.size(); i++) {
            String line = lines.get(i);
            if (line.equals("```java")) {
                inside = true;
                blocks++;
                program.append("static void block").append(blocks).append("(java.util.List<String[]> told) {\n");
            } else if (line.startsWith("```") && inside) {
                inside = false;
                program.append("}\n");
            } else if (inside) {
                Matcher m = ANSWERED.matcher(line);
                boolean isAnswered = m.matches();
                program.append(isAnswered ? telling(i + 1, m.group(1), m.group(2)) : line + "\n");
                if (isAnswered) {
                    answered.add(m.group(1));
                } else {
                    boolean isLead = line.equals("DigOrder x = new DigOrder();") || line.startsWith("for (");
                    due.is("README.md, line " + (i + 1) + " says what is due", isLead ? 1 : 0, 1);
                }
            }
        }
        program.append("public static void all(java.util.List<String[]> told) {\n");
        for (int b = 1; b <= blocks; b++) {
            program.append("block").append(b).append("(told);\n");
        }
        program.append("}\n}\n");
        due.is("there are examples", blocks >= 8 ? 1 : 0, 1);
        List<String[]> told = run(program.toString());
        due.is("lines that answer", told.size(), answered.size());
        for (String[] answer : told) {
            due.is("README.md, line " + answer[0] + ": " + answer[1], answer[2], answer[3]);
        }
        everyCallIsShown(answered, lines);
    }

    private static String telling(int line, String statement, String want) {
        String shown = statement.replace("\\", "\\\\").replace("\"", "\\\"");
        return "told.add(new String[] {\"" + line + "\", \"" + shown + "\", \"\" + (" + statement + "), \"" + want
            + "\"});\n";
    }

    private static List<String[]> run(String program) throws Exception {
        Path room = Files.createTempDirectory("readme");
        Path source = room.resolve("ReadmeExamples.java");
        Path made = room.resolve("ReadmeExamples.class");
        List<String[]> told = new ArrayList<>();
        try {
            Files.writeString(source, program);
            int result = new ProcessBuilder("javac", "-cp", System.getProperty("java.class.path"), "-d",
                room.toString(), source.toString()).inheritIO().start().waitFor();
            due.is("the examples compile", result, 0);
            if (result == 0) {
                try (URLClassLoader loader = new URLClassLoader(new URL[] {room.toUri().toURL()})) {
                    loader.loadClass("ReadmeExamples").getMethod("all", List.class).invoke(null, told);
                }
            }
        } catch (InvocationTargetException e) {
            due.is("an example threw", "" + e.getCause(), "");
        } finally {
            Files.deleteIfExists(made);
            Files.deleteIfExists(source);
            Files.deleteIfExists(room);
        }
        return told;
    }

    private static void everyCallIsShown(List<String> answered, List<String> lines) {
        String loops = String.join("\n", lines.stream().filter(s -> s.startsWith("for (")).toList());
        String all = String.join("\n", answered) + loops;
        for (Method m : DigOrder.class.getDeclaredMethods()) {
            if (java.lang.reflect.Modifier.isPublic(m.getModifiers())) {
                due.is(m.getName() + " is in an example", all.contains("x." + m.getName() + "(") ? 1 : 0, 1);
            }
        }
        for (int refusal : new int[] {-1, -2, -3, -4, -11, -12, -13, -14}) {
            long shown = lines.stream().filter(s -> s.matches("x\\..*// " + refusal + ": [A-Z]{3,}.*")).count();
            due.is("refusal " + refusal + " is in an example", shown > 0 ? 1 : 0, 1);
        }
    }

    // ---- the table

    private static void table(List<String> lines) {
        String[] want = REFUSALS.split(" ");
        int row = 0;
        for (String line : lines) {
            Matcher m = ROW.matcher(line);
            if (!m.matches()) {
                continue;
            }
            boolean isThere = 2 * row + 1 < want.length;
            due.is("row " + row, m.group(1), isThere ? want[2 * row] : "no row");
            String refusals = m.group(4).trim().replace(" ", "");
            due.is("refusals of " + m.group(1), refusals.isEmpty() ? "-" : refusals, isThere ? want[2 * row + 1] : "");
            due.is("parameters of " + m.group(1), parameters(m.group(2)), parametersOf(m.group(1)));
            row++;
        }
        due.is("rows of calls", row, 40);
    }

    private static int parameters(String names) {
        return names.isEmpty() ? 0 : names.split(",").length;
    }

    private static int parametersOf(String name) {
        for (Method m : DigOrder.class.getMethods()) {
            if (m.getDeclaringClass() == DigOrder.class && m.getName().equals(name)) {
                return m.getParameterCount();
            }
        }
        return -1;
    }

    // ---- the tests

    private static void testsAreNamed(List<String> lines) throws IOException {
        try (var files = Files.list(Path.of("src/test/java"))) {
            for (Path file : files.sorted().toList()) {
                String name = file.getFileName().toString().replace(".java", "");
                due.is(name + " is told", lines.stream().anyMatch(s -> s.contains("`" + name + "`")) ? 1 : 0, 1);
            }
        }
    }
}
