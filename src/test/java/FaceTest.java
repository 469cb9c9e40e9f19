import java.lang.reflect.Constructor;
import java.lang.reflect.Field;
import java.lang.reflect.Method;
import java.lang.reflect.Modifier;
import java.util.Arrays;
import java.util.TreeSet;

/** The document's face, and no other member that a caller could see. */
public final class FaceTest {
    private static final String[] METHODS = {
        "int feed(int, int, int, int, int) IllegalStateException",
        "void end(int) IllegalArgumentException",
        "void clear()",
        "int open() IllegalArgumentException IllegalStateException",
        "int property(int) IllegalArgumentException IllegalStateException",
        "int close() IllegalArgumentException",
        "int lay()",
        "int laid(int) IndexOutOfBoundsException",
        "int read()",
        "int nodes()",
        "int properties()",
        "int node(int, int) IndexOutOfBoundsException IllegalArgumentException",
        "int about(int, int) IndexOutOfBoundsException IllegalArgumentException",
        "int nodeName(int, int) IndexOutOfBoundsException",
        "int name(int, int) IndexOutOfBoundsException",
        "int value(int, int) IndexOutOfBoundsException",
        "int find()",
        "int seek(int) IndexOutOfBoundsException",
    };

    public static void main(String[] args) {
        Class<?> face = TreePress.class;
        Check.isTrue("public and final",
                face.getModifiers() == (Modifier.PUBLIC | Modifier.FINAL));
        Check.same("NONE", -1, TreePress.NONE);
        TreeSet<String> seen = new TreeSet<>();
        TreeSet<String> hidden = new TreeSet<>();
        for (Method m : face.getDeclaredMethods()) {
            if (Modifier.isPrivate(m.getModifiers())) {
                hidden.add(m.getName());
            } else {
                Check.isTrue(m + " is public alone", m.getModifiers() == Modifier.PUBLIC);
                seen.add(signature(m));
            }
        }
        TreeSet<String> due = new TreeSet<>(Arrays.asList(METHODS));
        Check.isTrue("the methods " + due + " against " + seen, due.equals(seen));
        for (String each : due) {
            String name = each.substring(each.indexOf(' ') + 1, each.indexOf('('));
            Check.isTrue("no private method is named " + name, !hidden.contains(name));
        }
        fieldsAndConstructors(face);
        classesInside(face);
        Check.finish();
    }

    private static String signature(Method m) {
        StringBuilder text = new StringBuilder();
        text.append(m.getReturnType().getName()).append(' ').append(m.getName()).append('(');
        String between = "";
        for (Class<?> type : m.getParameterTypes()) {
            text.append(between).append(type.getName());
            between = ", ";
        }
        text.append(')');
        for (Class<?> type : m.getExceptionTypes()) {
            text.append(' ').append(type.getSimpleName());
        }
        return text.toString();
    }

    private static void fieldsAndConstructors(Class<?> face) {
        for (Field f : face.getDeclaredFields()) {
            int kind = f.getModifiers();
            boolean none = f.getName().equals("NONE")
                    && kind == (Modifier.PUBLIC | Modifier.STATIC | Modifier.FINAL);
            Check.isTrue(f + " is NONE or private", none || Modifier.isPrivate(kind));
            Check.isTrue(f + " is final if static",
                    !Modifier.isStatic(kind) || Modifier.isFinal(kind));
        }
        Constructor<?>[] made = face.getDeclaredConstructors();
        Check.same("constructors", 1, made.length);
        Check.same("its parameters", 0, made[0].getParameterCount());
        Check.isTrue("it is public", made[0].getModifiers() == Modifier.PUBLIC);
    }

    private static void classesInside(Class<?> face) {
        for (Class<?> c : face.getDeclaredClasses()) {
            int kind = c.getModifiers();
            Check.isTrue(c + " is private and static",
                    Modifier.isPrivate(kind) && Modifier.isStatic(kind));
            Check.isTrue(c + " has few fields", c.getDeclaredFields().length <= 20);
        }
    }
}
