import java.lang.reflect.Constructor;
import java.lang.reflect.Field;
import java.lang.reflect.Method;
import java.lang.reflect.Modifier;
import java.util.TreeSet;

/** The public face is that of the document, and nothing else of the class can be seen from outside. */
public final class FaceTest {
    private static final Check CHECK = new Check("FaceTest");
    private static final String[] FACE = {"boolean type(char)", "void wipe()", "int compile()", "int instruction(int,int)",
        "boolean simple()", "boolean feed(char)", "void clear()", "int search(int)", "int slot(int,boolean)", "int work()",
        "int matcher()", "int states()", "int flushes()", "int breaks()"};

    public static void main(String[] args) {
        Class<?> c = LinearSearch.class;
        CHECK.same("public final", c.getModifiers(), Modifier.PUBLIC | Modifier.FINAL);
        Constructor<?>[] made = c.getDeclaredConstructors();
        CHECK.same("constructors", made.length, 1);
        CHECK.same("constructor", made[0].toString(), "public LinearSearch(int)");
        TreeSet<String> publicOnes = new TreeSet<>();
        TreeSet<String> publicNames = new TreeSet<>();
        for (Method m : c.getDeclaredMethods()) {
            if (!Modifier.isPrivate(m.getModifiers())) {
                CHECK.same("modifiers of " + m, m.getModifiers(), Modifier.PUBLIC);
                publicOnes.add(shown(m));
                publicNames.add(m.getName());
            }
        }
        TreeSet<String> due = new TreeSet<>();
        for (String method : FACE) {
            due.add(method);
        }
        CHECK.same("methods", publicOnes, due);
        for (Method m : c.getDeclaredMethods()) {
            if (Modifier.isPrivate(m.getModifiers())) {
                CHECK.same("private " + m.getName() + " bears a public name", publicNames.contains(m.getName()), false);
            }
        }
        fields(c);
        for (Class<?> inner : c.getDeclaredClasses()) {
            CHECK.same(inner + " is static", Modifier.isStatic(inner.getModifiers()), true);
            CHECK.same(inner + " is public", Modifier.isPublic(inner.getModifiers()), false);
            fields(inner);
        }
        CHECK.same("classes", c.getDeclaredClasses().length <= 11, true);
        CHECK.end();
    }

    private static void fields(Class<?> c) {
        int count = 0;
        for (Field f : c.getDeclaredFields()) {
            CHECK.same(f + " is private", Modifier.isPrivate(f.getModifiers()), true);
            boolean isStatic = Modifier.isStatic(f.getModifiers());
            CHECK.same(f + " is not static, or a constant", !isStatic || Modifier.isFinal(f.getModifiers()), true);
            count += isStatic ? 0 : 1;
        }
        CHECK.same("few fields in " + c, count <= 20, true);
    }

    private static String shown(Method m) {
        StringBuilder b = new StringBuilder();
        b.append(m.getReturnType()).append(' ').append(m.getName()).append('(');
        for (int i = 0; i < m.getParameterCount(); i++) {
            b.append(i == 0 ? "" : ",").append(m.getParameterTypes()[i]);
        }
        return b.append(')').toString();
    }
}
