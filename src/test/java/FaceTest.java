import java.lang.reflect.Constructor;
import java.lang.reflect.Field;
import java.lang.reflect.Method;
import java.lang.reflect.Modifier;
import java.util.Set;
import java.util.TreeSet;

/** The public face is the document's, no more and no less, and the class keeps nothing static that changes. */
public final class FaceTest {
    private static final String[] FACE = {
        "int thing(int,int)", "int arrow(int,int)", "int cut(int,int)", "int weight(int,int,int,int)",
        "int told(int,int,int)", "int about(int,int)", "int parent(int,int)", "int sound()",
        "int see(int,int)", "int act(int,int)", "int force(int,int,int)", "int chance()", "int ask(int,int)",
        "int both(int,int,int,int)", "long up()", "long down()", "int most(int)", "int likeliest(int)",
        "int at(int)", "int wholes()", "int apart(int,int)", "int options(int)", "int worth(int,int,int,int)",
        "int expected(int)", "int best()", "int gain(int)", "int next()", "int undo()", "int count(int)",
    };
    private static final String[] CONSTANTS = {"BAD=-1", "RING=-2", "MANY=-3", "ROUGH=-4", "NOUGHT=-5"};

    private static int wrong = 0;

    private static void check(boolean holds, String what) {
        if (!holds) {
            wrong++;
            System.out.println("does not hold: " + what);
        }
    }

    public static void main(String[] args) throws Exception {
        Class<?> c = BeliefWeb.class;
        check(Modifier.isPublic(c.getModifiers()) && Modifier.isFinal(c.getModifiers()), "public and final");
        check(c.getSuperclass() == Object.class && c.getInterfaces().length == 0, "stands alone");
        methods(c);
        constants(c);
        Constructor<?>[] made = c.getDeclaredConstructors();
        check(made.length == 1 && made[0].getParameterCount() == 0 && Modifier.isPublic(made[0].getModifiers()), "one constructor");
        for (Class<?> inside : c.getDeclaredClasses()) {
            check(Modifier.isStatic(inside.getModifiers()), inside.getName() + " is static");
            for (Field f : inside.getDeclaredFields()) check(!Modifier.isStatic(f.getModifiers()) || Modifier.isFinal(f.getModifiers()), f + " is no static state");
        }
        System.out.println(wrong == 0 ? "the face is the document's" : wrong + " things do not hold");
        if (wrong != 0) System.exit(1);
    }

    private static void methods(Class<?> c) {
        Set<String> seen = new TreeSet<>();
        Set<String> names = new TreeSet<>();
        for (Method m : c.getDeclaredMethods()) {
            if (Modifier.isPublic(m.getModifiers())) {
                seen.add(text(m));
                names.add(m.getName());
                check(!Modifier.isStatic(m.getModifiers()) && m.getExceptionTypes().length == 0, text(m) + " is plain");
            }
        }
        check(seen.equals(new TreeSet<>(Set.of(FACE))), "the public methods are " + seen);
        for (Method m : c.getDeclaredMethods()) {
            boolean open = Modifier.isPublic(m.getModifiers());
            check(open || Modifier.isPrivate(m.getModifiers()), m + " is public or private");
            check(open || !names.contains(m.getName()), m + " has a name of its own");
        }
        for (Class<?> inside : c.getDeclaredClasses())
            for (Method m : inside.getDeclaredMethods()) check(!names.contains(m.getName()), m + " has a name of its own");
    }

    private static String text(Method m) {
        StringBuilder b = new StringBuilder(m.getReturnType().getName()).append(' ').append(m.getName()).append('(');
        for (int i = 0; i < m.getParameterCount(); i++) b.append(i > 0 ? "," : "").append(m.getParameterTypes()[i].getName());
        return b.append(')').toString();
    }

    private static void constants(Class<?> c) throws Exception {
        Set<String> seen = new TreeSet<>();
        for (Field f : c.getDeclaredFields()) {
            if (Modifier.isPublic(f.getModifiers())) {
                check(Modifier.isStatic(f.getModifiers()) && Modifier.isFinal(f.getModifiers()) && f.getType() == int.class, f + " is a constant");
                seen.add(f.getName() + "=" + f.getInt(null));
            } else {
                check(Modifier.isPrivate(f.getModifiers()), f + " is private");
                check(!Modifier.isStatic(f.getModifiers()) || Modifier.isFinal(f.getModifiers()), f + " is no static state");
            }
        }
        check(seen.equals(new TreeSet<>(Set.of(CONSTANTS))), "the constants are " + seen);
    }
}
