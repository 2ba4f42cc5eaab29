import java.lang.reflect.Field;
import java.lang.reflect.Method;
import java.lang.reflect.Modifier;
import java.util.Arrays;
import java.util.Set;
import java.util.TreeSet;

/** The public face, and what LANGUAGE.md says of members and classes. */
final class FaceTest {
    private static final String[] METHODS = {
        "int person(int,int,int,int)", "int leave(int)", "int marry(int,int,boolean)", "int limit(int)", "int say(int)",
        "int wipe()", "int fault()", "int judge(int)", "int behind(int,int)", "int done()", "int weighs(int)", "int off(int)",
        "int out(int)", "int even(int,int)", "int make(int,boolean,int)", "int near(int,boolean)", "int gap(boolean)",
        "int assize(int)", "int just()", "int price(int,int,int)", "int seen(int,int,int)", "int forget()", "int airs(int)",
        "int air(int)", "int cross(int)", "long chance(int,int,int,int,int,int)", "int year(int,int,int)", "int image(int)",
        "int restore(int)", "int told(int)"
    };
    private static final String[] CONSTANTS = {
        "int UNKNOWN", "int OUTSIDE", "int STATE", "int FULL", "int NO", "int NONE", "long GONE"
    };
    private static final Due d = new Due();

    public static void main(String[] args) {
        constants();
        d.due("the class is public and final", SwornPounds.class.getModifiers(), Modifier.PUBLIC | Modifier.FINAL);
        d.due("one constructor", SwornPounds.class.getDeclaredConstructors().length, 1);
        d.due("a public one without arguments", SwornPounds.class.getConstructors()[0].getParameterCount(), 0);
        dueSame("methods", METHODS, methods());
        dueSame("constants", CONSTANTS, fields());
        for (Class<?> c : SwornPounds.class.getDeclaredClasses()) {
            d.due(c + " is static", Modifier.isStatic(c.getModifiers()) ? 1 : 0, 1);
            d.due(c + " is not public", Modifier.isPublic(c.getModifiers()) || Modifier.isProtected(c.getModifiers()) ? 1 : 0, 0);
            members(c);
        }
        members(SwornPounds.class);
        d.due("twelve classes at most", SwornPounds.class.getDeclaredClasses().length < 12 ? 1 : 0, 1);
        d.end();
    }

    private static void constants() {
        d.due("UNKNOWN", SwornPounds.UNKNOWN, -1);
        d.due("OUTSIDE", SwornPounds.OUTSIDE, -2);
        d.due("STATE", SwornPounds.STATE, -3);
        d.due("FULL", SwornPounds.FULL, -4);
        d.due("NO", SwornPounds.NO, -5);
        d.due("NONE", SwornPounds.NONE, -6);
        d.due("GONE", SwornPounds.GONE, -1000000000000000000L);
    }

    private static Set<String> methods() {
        Set<String> found = new TreeSet<>();
        for (Method m : SwornPounds.class.getDeclaredMethods()) {
            if (!Modifier.isPrivate(m.getModifiers())) {
                String of = Arrays.toString(Arrays.stream(m.getParameterTypes()).map(Class::getName).toArray());
                String mark = m.getModifiers() == Modifier.PUBLIC ? "" : " otherwise";
                found.add(m.getReturnType() + " " + m.getName() + of.replace('[', '(').replace(']', ')').replace(" ", "") + mark);
            }
        }
        return found;
    }

    private static Set<String> fields() {
        Set<String> found = new TreeSet<>();
        for (Field f : SwornPounds.class.getDeclaredFields()) {
            if (!Modifier.isPrivate(f.getModifiers())) {
                boolean constant = f.getModifiers() == (Modifier.PUBLIC | Modifier.STATIC | Modifier.FINAL);
                found.add(f.getType() + " " + f.getName() + (constant ? "" : " otherwise"));
            }
        }
        return found;
    }

    private static void dueSame(String what, String[] due, Set<String> found) {
        Set<String> missing = new TreeSet<>(Arrays.asList(due));
        missing.removeAll(found);
        Set<String> tooMany = new TreeSet<>(found);
        tooMany.removeAll(Arrays.asList(due));
        d.due(what + " that are missing: " + missing, missing.size(), 0);
        d.due(what + " that are too many: " + tooMany, tooMany.size(), 0);
    }

    private static void members(Class<?> c) {
        Set<String> face = new TreeSet<>();
        for (Method m : SwornPounds.class.getMethods()) {
            face.add(m.getName());
        }
        for (Method m : c.getDeclaredMethods()) {
            boolean own = c == SwornPounds.class && Modifier.isPublic(m.getModifiers());
            d.due(m + " bears a name of the face", !own && face.contains(m.getName()) ? 1 : 0, 0);
            d.due(m + " takes seven at most", m.getParameterCount() <= 7 ? 1 : 0, 1);
        }
        int held = 0;
        for (Field f : c.getDeclaredFields()) {
            if (Modifier.isStatic(f.getModifiers())) {
                d.due(f + " is final", Modifier.isFinal(f.getModifiers()) ? 1 : 0, 1);
            } else {
                held++;
            }
        }
        d.due(c + " has twenty fields at most", held <= 20 ? 1 : 0, 1);
    }
}
