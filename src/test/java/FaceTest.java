import java.lang.reflect.Constructor;
import java.lang.reflect.Field;
import java.lang.reflect.Method;
import java.lang.reflect.Modifier;
import java.util.ArrayList;
import java.util.Collections;
import java.util.List;

/** The public face is the document's, and nothing else of the class can be seen from outside. */
public final class FaceTest {
    private static final Due due = new Due("FaceTest");
    private static final String FACE = "int unit(int) int set(int,int,int) int of(int,int) int tie(int,int) "
        + "int untie(int,int) int told(int) int below(int,int) int cycle(int) int level(int) int idle(int) "
        + "int proof(int) int over(int,int) int rank(int) int bounds(int,int) long middle(int) int rate(int) "
        + "long age(int,int) int dig(int) int lay() int dug(int) long orders() int order(long,int) "
        + "int tray(int,int,int) int held(int,int,int) int feed(int) int read() int draw(int) int paper(int) "
        + "int see(int,int,boolean) int fits(int) int event(int,int) long after(int) int judge(int,int) int image() "
        + "int undo() int count(int) int tape(int,int,int) int item(int,int,long) long peek(int,int) "
        + "int shift(int,int,int,int,int)";

    public static void main(String[] args) {
        due.is("final", Modifier.isFinal(DigOrder.class.getModifiers()) ? 1 : 0, 1);
        due.is("public", Modifier.isPublic(DigOrder.class.getModifiers()) ? 1 : 0, 1);
        Constructor<?>[] made = DigOrder.class.getDeclaredConstructors();
        due.is("constructors", made.length, 1);
        due.is("its parameters", made[0].getParameterCount(), 0);
        due.is("its modifiers", made[0].getModifiers(), Modifier.PUBLIC);
        methods();
        fields();
        due.end();
    }

    private static void methods() {
        List<String> seen = new ArrayList<>();
        List<String> names = new ArrayList<>();
        for (Method m : DigOrder.class.getDeclaredMethods()) {
            if (Modifier.isPrivate(m.getModifiers())) {
                continue;
            }
            due.is("modifiers of " + m.getName(), m.getModifiers(), Modifier.PUBLIC);
            List<String> types = new ArrayList<>();
            for (Class<?> type : m.getParameterTypes()) {
                types.add(type.getName());
            }
            seen.add(m.getReturnType().getName() + " " + m.getName() + "(" + String.join(",", types) + ")");
            names.add(m.getName());
        }
        Collections.sort(seen);
        List<String> face = new ArrayList<>(List.of(FACE.split("(?<=\\)) ")));
        Collections.sort(face);
        due.is("the face", seen.toString(), face.toString());
        List<Class<?>> classes = new ArrayList<>(List.of(DigOrder.class.getDeclaredClasses()));
        classes.add(DigOrder.class);
        for (Class<?> c : classes) {
            for (Method m : c.getDeclaredMethods()) {
                if (c != DigOrder.class || Modifier.isPrivate(m.getModifiers())) {
                    due.is(c.getName() + "." + m.getName() + " bears a public name", names.contains(m.getName()) ? 1 : 0, 0);
                }
            }
        }
        due.is("some twelve classes at most", classes.size() <= 12 ? 1 : 0, 1);
    }

    private static void fields() {
        List<String> seen = new ArrayList<>();
        for (Field f : DigOrder.class.getDeclaredFields()) {
            if (!Modifier.isPrivate(f.getModifiers())) {
                seen.add(f.getName());
                due.is(f.getName() + " is constant", f.getModifiers(),
                    Modifier.PUBLIC | Modifier.STATIC | Modifier.FINAL);
            }
            if (Modifier.isStatic(f.getModifiers())) {
                due.is(f.getName() + " is final", Modifier.isFinal(f.getModifiers()) ? 1 : 0, 1);
            }
        }
        Collections.sort(seen);
        due.is("the constants", seen.toString(), "[BAD, FULL, NO, NONE, STATE]");
    }
}
