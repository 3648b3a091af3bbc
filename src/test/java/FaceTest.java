import java.lang.reflect.Constructor;
import java.lang.reflect.Field;
import java.lang.reflect.Method;
import java.lang.reflect.Modifier;
import java.util.ArrayList;
import java.util.Collections;
import java.util.HashSet;
import java.util.List;
import java.util.Set;

/** The public face is the document's, no more and no less (LANGUAGE.md, rule 1). */
public final class FaceTest {
    private static final String[] FACE = {
        "boolean mark(int,int,int,int) throws ArrayIndexOutOfBoundsException",
        "boolean unit(int)",
        "int grade()",
        "int graded(int,int)",
        "int count(int,int) throws ArrayIndexOutOfBoundsException",
        "boolean least(int)",
        "long share(int,int,int) throws ArrayIndexOutOfBoundsException",
        "long at(int,int,int) throws ArrayIndexOutOfBoundsException",
        "boolean start(int,long,long)",
        "boolean works(int,int,int,long,long)",
        "boolean event(int,int,int,long,long)",
        "boolean sums(int)",
        "int drawn(long,int,int)",
        "long span(int,int,int,int)",
        "boolean part2(int,long)",
        "long worth(int,int)",
        "long agree(int,int,int)",
        "int joined(int,int)",
        "int target(int,long,long)",
        "int missing(int)",
        "boolean kind(int,int)",
    };

    public static void main(String[] args) {
        Check.due("BAD", -1, StateShares.BAD);
        Check.yes("the class is public and final", Modifier.isPublic(StateShares.class.getModifiers())
            && Modifier.isFinal(StateShares.class.getModifiers()));
        checkMethods();
        checkFieldsAndConstructors();
        checkInnerClasses();
        Check.finish();
    }

    private static void checkMethods() {
        List<String> want = new ArrayList<>(List.of(FACE));
        List<String> got = new ArrayList<>();
        Set<String> names = new HashSet<>();
        for (Method m : StateShares.class.getDeclaredMethods()) {
            if (!Modifier.isPrivate(m.getModifiers())) {
                got.add(text(m));
                names.add(m.getName());
            }
        }
        Collections.sort(want);
        Collections.sort(got);
        Check.yes("methods of the face are " + got, want.equals(got));
        for (Method m : StateShares.class.getDeclaredMethods()) {
            if (Modifier.isPrivate(m.getModifiers())) {
                Check.no("private " + m.getName() + " bears a public name", names.contains(m.getName()));
            }
        }
    }

    private static String text(Method m) {
        StringBuilder b = new StringBuilder(m.getReturnType().getName() + " " + m.getName() + "(");
        for (int i = 0; i < m.getParameterCount(); i++) {
            b.append(i == 0 ? "" : ",").append(m.getParameterTypes()[i].getName());
        }
        b.append(")");
        for (Class<?> e : m.getExceptionTypes()) {
            b.append(" throws ").append(e.getSimpleName());
        }
        return b.toString();
    }

    private static void checkFieldsAndConstructors() {
        for (Field f : StateShares.class.getDeclaredFields()) {
            Check.yes("field " + f.getName() + " is private, or BAD",
                Modifier.isPrivate(f.getModifiers()) || f.getName().equals("BAD"));
        }
        Constructor<?>[] made = StateShares.class.getDeclaredConstructors();
        Check.due("how many constructors", 1, made.length);
        Check.yes("the constructor takes an int", made[0].getParameterCount() == 1
            && made[0].getParameterTypes()[0] == int.class && Modifier.isPublic(made[0].getModifiers()));
    }

    private static void checkInnerClasses() {
        Class<?>[] inside = StateShares.class.getDeclaredClasses();
        Check.yes("at most twelve classes", inside.length + 1 <= 12);
        for (Class<?> c : inside) {
            int mods = c.getModifiers();
            Check.yes(c.getName() + " is static and hidden", Modifier.isStatic(mods)
                && !Modifier.isPublic(mods) && !Modifier.isProtected(mods));
            for (Field f : c.getDeclaredFields()) {
                Check.yes(c.getName() + "." + f.getName() + " is no changing static field",
                    !Modifier.isStatic(f.getModifiers()) || Modifier.isFinal(f.getModifiers()));
            }
        }
    }
}
