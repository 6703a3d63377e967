import java.lang.reflect.Constructor;
import java.lang.reflect.Field;
import java.lang.reflect.Method;
import java.lang.reflect.Modifier;
import java.util.Arrays;
import java.util.TreeSet;

/** The public face of the document, and no other member that can be seen from outside (LANGUAGE.md, 1 and 5). */
public final class FaceTest {
    private static final String[] FACE = {
        "int feed(int,int,int,int,int)", "int bus(int)", "int fault()", "int where()", "int stop()", "int run()",
        "int seconds(int)", "int at(int)", "int sits(int)", "int bag(int)", "int standing()", "int free()",
        "int order(int)", "int shunned(int)", "int given()", "int sorted()", "int mark()", "boolean back(int)",
        "int choice(int)", "int ties(int)", "long odds(int,int)", "long ways()", "int monday(int)",
        "int doorway(int,int)", "int film(int,int)", "int agrees(int)", "int likely()", "int dealt(int)", "int deals()",
        "long alone(int,int)", "int full(int)", "int fewest(int)", "int layout(int,int)", "int beats(int,int)",
        "int unbeaten()", "int seat(int,int)", "int rider(int,int)", "int way(int,int)", "int led(int)",
        "int size(int)", "int trouble()"};

    private static String signature(Method m) {
        String types = Arrays.toString(m.getParameterTypes()).replaceAll("[\\[\\] ]", "");
        return m.getReturnType() + " " + m.getName() + "(" + types + ")";
    }

    private static boolean seen(int modifiers) {
        return !Modifier.isPrivate(modifiers);
    }

    private static void privateNames(Check check, Class<?> c, TreeSet<String> names) {
        for (Method m : c.getDeclaredMethods()) {
            boolean face = c == BusSeats.class && Modifier.isPublic(m.getModifiers());
            check.is(c.getName() + "." + m.getName() + " named as one of the face",
                !face && names.contains(m.getName()) ? 1 : 0, 0);
        }
        for (Field f : c.getDeclaredFields()) {
            boolean loose = Modifier.isStatic(f.getModifiers()) && !Modifier.isFinal(f.getModifiers());
            check.is(c.getName() + "." + f.getName() + " static and not final", loose ? 1 : 0, 0);
        }
    }

    public static void main(String[] args) {
        Check check = new Check("FaceTest");
        TreeSet<String> due = new TreeSet<>(Arrays.asList(FACE));
        TreeSet<String> names = new TreeSet<>();
        for (Method m : BusSeats.class.getDeclaredMethods()) {
            if (seen(m.getModifiers())) {
                names.add(m.getName());
                check.is(signature(m) + " in the face", due.remove(signature(m)) ? 1 : 0, 1);
                check.is(signature(m) + " public, not static",
                    Modifier.isPublic(m.getModifiers()) && !Modifier.isStatic(m.getModifiers()) ? 1 : 0, 1);
            }
        }
        check.is("methods that lack: " + due, due.size(), 0);
        check.is("class public and final", BusSeats.class.getModifiers() & (Modifier.PUBLIC | Modifier.FINAL),
            Modifier.PUBLIC | Modifier.FINAL);
        for (Field f : BusSeats.class.getDeclaredFields()) {
            check.is(f.getName() + " seen", seen(f.getModifiers()) && !f.getName().equals("NONE") ? 1 : 0, 0);
        }
        Constructor<?>[] made = BusSeats.class.getDeclaredConstructors();
        check.is("constructors", made.length, 1);
        check.is("constructor's parameters", made[0].getParameterCount(), 0);
        check.is("NONE", BusSeats.NONE, -1);
        privateNames(check, BusSeats.class, names);
        int classes = 1;
        for (Class<?> inner : BusSeats.class.getDeclaredClasses()) {
            classes++;
            check.is(inner + " static", Modifier.isStatic(inner.getModifiers()) ? 1 : 0, 1);
            check.is(inner + " public or protected",
                inner.getModifiers() & (Modifier.PUBLIC | Modifier.PROTECTED), 0);
            check.is(inner + " has more than twenty fields", Arrays.stream(inner.getDeclaredFields())
                .filter(f -> !Modifier.isStatic(f.getModifiers())).count() > 20 ? 1 : 0, 0);
            privateNames(check, inner, names);
        }
        check.is("more than twelve classes", classes > 12 ? 1 : 0, 0);
        check.end();
    }
}
