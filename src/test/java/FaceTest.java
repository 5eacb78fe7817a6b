import java.lang.reflect.Constructor;
import java.lang.reflect.Field;
import java.lang.reflect.Method;
import java.lang.reflect.Modifier;
import java.util.Set;
import java.util.TreeSet;

/** The class has the members of the document's public face, and every other member is private. */
public final class FaceTest {
    private static final Set<String> FACE = Set.of(
        "int up()", "int read(int)", "int write(int,int)", "int fill(int,int,int,int)", "int sync()",
        "int begin()", "int commit()", "int abort()", "int crash()", "int crashIn(int)", "int mount()",
        "int unsynced()", "int grouped()", "int pending()", "int sum()", "int clean()", "int check()");

    private static int wrong = 0;

    private static void due(String what, Object got, Object want) {
        if (!got.equals(want)) {
            wrong++;
            System.out.println(what + " is " + got + ", due is " + want);
        }
    }

    private static String signature(Method m) {
        StringBuilder s = new StringBuilder(m.getReturnType() + " " + m.getName() + "(");
        String comma = "";
        for (Class<?> p : m.getParameterTypes()) {
            s.append(comma).append(p);
            comma = ",";
        }
        return s.append(")").toString();
    }

    public static void main(String[] args) {
        Class<?> c = ZonedLogStore.class;
        due("the class's modifiers", c.getModifiers(), Modifier.PUBLIC | Modifier.FINAL);
        due("the superclass", c.getSuperclass(), Object.class);
        due("the number of interfaces", c.getInterfaces().length, 0);
        due("the number of nested classes", c.getDeclaredClasses().length, 0);

        Set<String> open = new TreeSet<>();
        Set<String> publicNames = new TreeSet<>();
        for (Method m : c.getDeclaredMethods()) {
            if (!Modifier.isPrivate(m.getModifiers())) {
                due("the modifiers of " + m.getName(), m.getModifiers(), Modifier.PUBLIC);
                open.add(signature(m));
                publicNames.add(m.getName());
            }
        }
        due("the public face", open, new TreeSet<>(FACE));
        for (Method m : c.getDeclaredMethods()) {
            if (Modifier.isPrivate(m.getModifiers())) {
                due("a private " + m.getName() + " with a public name", publicNames.contains(m.getName()), false);
            }
        }

        Constructor<?>[] made = c.getDeclaredConstructors();
        due("the number of constructors", made.length, 1);
        due("the constructor's parameters", made[0].getParameterCount(), 0);
        due("the constructor's modifiers", made[0].getModifiers(), Modifier.PUBLIC);
        for (Field f : c.getDeclaredFields()) {
            due("privacy of " + f.getName(), Modifier.isPrivate(f.getModifiers()), true);
        }
        if (wrong != 0) {
            System.exit(1);
        }
    }
}
