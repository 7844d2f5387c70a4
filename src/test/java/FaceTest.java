import java.io.IOException;
import java.lang.reflect.Constructor;
import java.lang.reflect.Executable;
import java.lang.reflect.Field;
import java.lang.reflect.Method;
import java.lang.reflect.Modifier;
import java.nio.file.Files;
import java.nio.file.Path;
import java.util.List;
import java.util.TreeSet;

/** The public face is that of the document, and nothing else of the class can be seen from outside. */
public final class FaceTest {
    private static final Check CHECK = new Check("FaceTest");

    public static void main(String[] args) throws IOException {
        Class<?> c = LinearSearch.class;
        CHECK.same("public final", c.getModifiers(), Modifier.PUBLIC | Modifier.FINAL);
        CHECK.same("above it", c.getSuperclass() == Object.class && c.getInterfaces().length == 0, true);
        TreeSet<String> seen = new TreeSet<>();
        TreeSet<String> publicNames = new TreeSet<>();
        for (Constructor<?> made : c.getDeclaredConstructors()) {
            seen.add(shown(made, ""));
        }
        for (Method m : c.getDeclaredMethods()) {
            if (!Modifier.isPrivate(m.getModifiers())) {
                seen.add(shown(m, m.getReturnType() + " "));
                publicNames.add(m.getName());
            }
        }
        CHECK.same("the face", seen, faceOf(Path.of(args.length > 1 ? args[1] : "../shared/DOC.md")));
        for (Method m : c.getDeclaredMethods()) {
            if (Modifier.isPrivate(m.getModifiers())) {
                CHECK.same("private " + m.getName() + " bears a public name", publicNames.contains(m.getName()), false);
            }
        }
        fields(c);
        for (Class<?> inner : c.getDeclaredClasses()) {
            CHECK.same(inner + " is static", Modifier.isStatic(inner.getModifiers()), true);
            CHECK.same(inner + " is public", Modifier.isPublic(inner.getModifiers()), false);
            fields(inner);
        }
        CHECK.same("classes", c.getDeclaredClasses().length <= 11, true);
        CHECK.end();
    }

    /** The lines of the document's class, as in "public int slot(int, boolean) throws IndexOutOfBoundsException". */
    private static TreeSet<String> faceOf(Path document) throws IOException {
        List<String> lines = Files.readAllLines(document);
        int begin = lines.indexOf("public final class LinearSearch {");
        int end = begin + lines.subList(Math.max(begin, 0), lines.size()).indexOf("}");
        CHECK.same("the document has a face", begin >= 0 && end > begin, true);
        TreeSet<String> face = new TreeSet<>();
        for (String line : lines.subList(begin + 1, end)) {
            face.add(line.strip().replaceAll("(int|char|boolean) \\w+([,)])", "$1$2").replace(";", ""));
        }
        CHECK.same("a constructor and 14 methods", face.size(), 15);
        return face;
    }

    private static void fields(Class<?> c) {
        int count = 0;
        for (Field f : c.getDeclaredFields()) {
            CHECK.same(f + " is private", Modifier.isPrivate(f.getModifiers()), true);
            boolean isStatic = Modifier.isStatic(f.getModifiers());
            CHECK.same(f + " is not static, or a constant", !isStatic || Modifier.isFinal(f.getModifiers()), true);
            count += isStatic ? 0 : 1;
        }
        CHECK.same("few fields in " + c, count <= 20, true);
    }

    private static String shown(Executable e, String answer) {
        StringBuilder b = new StringBuilder(Modifier.toString(e.getModifiers()));
        b.append(' ').append(answer).append(e.getName()).append('(').append(joined(e.getParameterTypes())).append(')');
        return b.append(e.getExceptionTypes().length == 0 ? "" : " throws ").append(joined(e.getExceptionTypes())).toString();
    }

    private static String joined(Class<?>[] types) {
        StringBuilder b = new StringBuilder();
        for (Class<?> type : types) {
            b.append(b.length() == 0 ? "" : ", ").append(type.getSimpleName());
        }
        return b.toString();
    }
}
