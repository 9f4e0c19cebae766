import java.lang.reflect.Constructor;
import java.lang.reflect.Field;
import java.lang.reflect.Member;
import java.lang.reflect.Method;
import java.lang.reflect.Modifier;
import java.util.Arrays;
import java.util.NoSuchElementException;
import java.util.Set;
import java.util.TreeSet;

/** The public face: just the members of the document, and LANGUAGE.md's rules 1, 5 and 11 where they can be seen. */
public final class FaceTest {
    private static final String[] FACE = {
        "int feed int int int int int", "int laws int", "int fault", "int where",
        "int person int int", "int far int int", "int worth int int", "int tax int int", "int chooses int",
        "int waverers", "int holders int", "int fashion", "int came int", "int paid", "int farthest",
        "long plan int int boolean", "int planFirst int int", "long stays int int boolean",
        "long planBy int int int boolean",
        "int raised", "int harm", "int raisedBy int", "int harmBy int", "int bestTable", "int raisedThird int",
        "int harmThird int", "int stillTable",
        "int rows int", "int could int", "int surely int", "int firstOf int", "int ask", "int askLeaves", "int liar",
        "int caught int", "int places int", "int enough", "int catches int",
        "int two int boolean int boolean boolean", "int rests int int", "int rest int int",
        "int year int int", "int yearHeld int int int", "int yearChanges int int",
        "int change int int", "int hours int", "boolean seed int", "boolean undo", "int mark", "boolean back int",
        "int led int", "int size int", "int trouble"};

    public static void main(String[] args) throws Exception {
        Set<String> face = new TreeSet<>(Arrays.asList(FACE));
        Set<String> names = new TreeSet<>();
        Set<String> seen = new TreeSet<>();
        for (Method m : WaverTax.class.getDeclaredMethods()) {
            if (Modifier.isPublic(m.getModifiers())) {
                seen.add(told(m));
                names.add(m.getName());
                Check.due(told(m) + " throws", m.getExceptionTypes().length, m.getName().equals("led") ? 1 : 0);
            }
        }
        Check.due("face " + seen, seen.equals(face), true);
        Check.due("led throws what the document says",
            WaverTax.class.getMethod("led", int.class).getExceptionTypes()[0] == NoSuchElementException.class, true);
        Check.due("NONE", WaverTax.NONE, -1);
        int modifiers = WaverTax.class.getModifiers();
        Check.due("public and final", Modifier.isPublic(modifiers) && Modifier.isFinal(modifiers), true);
        Constructor<?>[] made = WaverTax.class.getDeclaredConstructors();
        Check.due("constructors", made.length, 1);
        Check.due("public constructor", Modifier.isPublic(made[0].getModifiers()), true);
        for (Method m : WaverTax.class.getDeclaredMethods()) {
            hidden(m, names);
        }
        for (Field f : WaverTax.class.getDeclaredFields()) {
            boolean shown = f.getName().equals("NONE");
            Check.due("private " + f, Modifier.isPrivate(f.getModifiers()), !shown);
        }
        inside(names);
        Check.end();
    }

    private static void hidden(Method m, Set<String> names) {
        boolean shown = Modifier.isPublic(m.getModifiers());
        Check.due("private " + m, Modifier.isPrivate(m.getModifiers()), !shown);
        Check.due("a name of its own " + m, !shown && names.contains(m.getName()), false);
        Check.due("seven parameters " + m, m.getParameterCount() <= 7, true);
    }

    private static void inside(Set<String> names) {
        Class<?>[] inside = WaverTax.class.getDeclaredClasses();
        Check.due("some twelve classes", inside.length < 12, true);
        for (Class<?> c : inside) {
            Check.due("static " + c, Modifier.isStatic(c.getModifiers()), true);
            Check.due("not public " + c, Modifier.isPublic(c.getModifiers()), false);
            for (Method m : c.getDeclaredMethods()) {
                Check.due("a name of its own " + m, names.contains(m.getName()), false);
                Check.due("seven parameters " + m, m.getParameterCount() <= 7, true);
            }
            fields(c);
        }
        fields(WaverTax.class);
    }

    private static void fields(Class<?> c) {
        int count = 0;
        for (Field f : c.getDeclaredFields()) {
            if (isStatic(f)) {
                Check.due("final " + f, Modifier.isFinal(f.getModifiers()), true);
            } else {
                count++;
            }
        }
        Check.due("some twenty fields in " + c, count <= 20, true);
    }

    private static boolean isStatic(Member m) {
        return Modifier.isStatic(m.getModifiers());
    }

    private static String told(Method m) {
        StringBuilder told = new StringBuilder(m.getReturnType() + " " + m.getName());
        for (Class<?> c : m.getParameterTypes()) {
            told.append(' ').append(c);
        }
        return told.toString();
    }
}
