import java.lang.reflect.Constructor;
import java.lang.reflect.Field;
import java.lang.reflect.Method;
import java.lang.reflect.Modifier;
import java.util.Arrays;
import java.util.Set;
import java.util.TreeSet;

/** The public face of the document, no more and no less. */
public final class FaceTest {
    private static final String[] METHODS = {
        "int write(int, long)", "int wipe()", "int fault()", "int lay()", "int leaf(int, int)", "int where(int)",
        "int read()", "int finish()", "int change(int, int)", "int drop(int)", "int has(long, int)",
        "long leaves(long)", "int period()", "long ever(int)", "int right(long)", "int order(long, int)",
        "int shows(int, int)", "int quickest(int)", "int seen(long, int, int)", "int forget()", "int so()",
        "int sure(int)", "int lacks(int, int)", "int notice(int, int, int)", "int pleased(int, int)",
        "int keep()", "int back()", "int count(int)"
    };
    private static int wrong = 0;

    private static void due(String what, Object got, Object want) {
        if (!got.equals(want)) {
            wrong++;
            System.out.println(what + ": " + got + ", due is " + want);
        }
    }

    private static String signature(Method m) {
        StringBuilder s = new StringBuilder(m.getReturnType().getName() + " " + m.getName() + "(");
        for (Class<?> c : m.getParameterTypes()) {
            s.append(s.charAt(s.length() - 1) == '(' ? "" : ", ").append(c.getName());
        }
        return s.append(")").toString();
    }

    private static void checkFace() {
        Class<?> face = ShufflingBook.class;
        due("the class is public and final", face.getModifiers(), Modifier.PUBLIC | Modifier.FINAL);
        Set<String> open = new TreeSet<>();
        Set<String> names = new TreeSet<>();
        for (Method m : face.getDeclaredMethods()) {
            if (Modifier.isPrivate(m.getModifiers())) {
                continue;
            }
            due(m.getName() + " is public alone", m.getModifiers(), Modifier.PUBLIC);
            open.add(signature(m));
            names.add(m.getName());
        }
        due("methods", open, new TreeSet<>(Arrays.asList(METHODS)));
        for (Class<?> c : face.getDeclaredClasses()) {
            due(c.getName() + " is static", Modifier.isStatic(c.getModifiers()), true);
            for (Method m : c.getDeclaredMethods()) {
                due(c.getName() + "." + m.getName() + " has a public name", names.contains(m.getName()), false);
            }
        }
        for (Method m : face.getDeclaredMethods()) {
            boolean hidden = Modifier.isPrivate(m.getModifiers());
            due(m.getName() + " is private by a public name", hidden && names.contains(m.getName()), false);
        }
        Constructor<?>[] made = face.getDeclaredConstructors();
        due("constructors", made.length, 1);
        due("the constructor is public", made[0].getModifiers(), Modifier.PUBLIC);
        due("the constructor's parameters", made[0].getParameterCount(), 0);
    }

    private static void checkConstants() {
        Set<String> open = new TreeSet<>();
        for (Field f : ShufflingBook.class.getDeclaredFields()) {
            if (!Modifier.isPrivate(f.getModifiers())) {
                open.add(Modifier.toString(f.getModifiers()) + " " + f.getType().getName() + " " + f.getName());
            }
            if (Modifier.isStatic(f.getModifiers())) {
                due(f.getName() + " is final", Modifier.isFinal(f.getModifiers()), true);
            }
        }
        Set<String> want = new TreeSet<>();
        for (String name : new String[] {"BAD", "NO", "FULL", "NONE"}) {
            want.add("public static final int " + name);
        }
        due("constants", open, want);
        due("BAD", ShufflingBook.BAD, -1);
        due("NO", ShufflingBook.NO, -2);
        due("FULL", ShufflingBook.FULL, -3);
        due("NONE", ShufflingBook.NONE, -4);
    }

    public static void main(String[] args) {
        checkFace();
        checkConstants();
        System.out.println(wrong == 0 ? "the face is as due" : wrong + " things of the face are not as due");
        if (wrong != 0) {
            System.exit(1);
        }
    }
}
