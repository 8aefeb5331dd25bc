import java.lang.reflect.Constructor;
import java.lang.reflect.Field;
import java.lang.reflect.Method;
import java.lang.reflect.Modifier;
import java.util.Set;
import java.util.TreeSet;

/** The class has the document's face and nothing beside it that another class could see. */
public final class FaceTest {
    private static final String[] FACE = {
        "topic(int, int)", "as(int, int)", "need(int, int, boolean)", "comes(int, int)", "standards(int, int)",
        "partner(int, int)", "of(int, int)", "room(int, int)", "snow(int, boolean)", "test(int)",
        "sheet(int, int, int)", "write(int, int, int)", "copy(int, int, int, int, int)", "read(int)",
        "put(int, int)", "again(int, int)", "fault()", "load(int)", "evenness()", "best(boolean)", "plans()",
        "least(boolean)", "late(int, boolean)", "met(boolean)", "only(int)", "book(int, int)", "due(int, int)",
        "drift(int)", "undo()", "told(int)",
    };

    private static int wrong = 0;

    private static void due(String what, Object got, Object want) {
        if (!got.equals(want)) {
            wrong++;
            System.out.println(what + ": " + got + ", due is " + want);
        }
    }

    private static String told(Method m) {
        StringBuilder b = new StringBuilder(m.getName()).append('(');
        for (Class<?> p : m.getParameterTypes()) {
            b.append(b.charAt(b.length() - 1) == '(' ? "" : ", ").append(p.getName());
        }
        return b.append(')').toString();
    }

    private static void members(Class<?> c) {
        Set<String> face = new TreeSet<>();
        for (Method m : c.getDeclaredMethods()) {
            if (Modifier.isPublic(m.getModifiers())) {
                face.add(told(m));
                due(told(m) + " is static", Modifier.isStatic(m.getModifiers()), false);
                due(told(m) + " answers", m.getReturnType(), int.class);
            } else if (!m.isSynthetic()) {
                due(told(m) + " is private", Modifier.isPrivate(m.getModifiers()), true);
            }
        }
        due("face", face, new TreeSet<>(Set.of(FACE)));
        for (Field f : c.getDeclaredFields()) {
            due(f.getName() + " is private", Modifier.isPrivate(f.getModifiers()), true);
            due(f.getName() + " static, but not final",
                Modifier.isStatic(f.getModifiers()) && !Modifier.isFinal(f.getModifiers()), false);
        }
        Constructor<?>[] made = c.getDeclaredConstructors();
        due("constructors", made.length, 1);
        due("constructor is public", Modifier.isPublic(made[0].getModifiers()), true);
        due("constructor takes", made[0].getParameterCount(), 0);
    }

    private static void inner(Class<?> c) {
        Set<String> names = new TreeSet<>();
        for (String f : FACE) {
            names.add(f.substring(0, f.indexOf('(')));
        }
        for (Class<?> in : c.getDeclaredClasses()) {
            due(in.getName() + " is static", Modifier.isStatic(in.getModifiers()), true);
            int own = 0;
            for (Field f : in.getDeclaredFields()) {
                own += Modifier.isStatic(f.getModifiers()) ? 0 : 1;
            }
            due(in.getName() + " has at most twenty fields", own <= 20, true);
            for (Method m : in.getDeclaredMethods()) {
                due(in.getName() + "." + m.getName() + " bears a public name", names.contains(m.getName()), false);
            }
        }
        due("at most twelve classes", c.getDeclaredClasses().length < 12, true);
    }

    public static void main(String[] args) {
        Class<?> c = LessonSpiral.class;
        due("public and final", c.getModifiers(), Modifier.PUBLIC | Modifier.FINAL);
        due("package", c.getPackageName(), "");
        members(c);
        inner(c);
        System.out.println(wrong == 0 ? "the face is the document's" : wrong + " members are not as due");
        if (wrong != 0) {
            System.exit(1);
        }
    }
}
