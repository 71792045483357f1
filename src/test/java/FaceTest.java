import java.lang.reflect.Constructor;
import java.lang.reflect.Field;
import java.lang.reflect.Method;
import java.lang.reflect.Modifier;
import java.util.TreeSet;

/** The class shows the document's face and nothing else (LANGUAGE.md, rule 1). */
public final class FaceTest {
    private static final String[] FACE = {
        "int feed int int int int int", "boolean end int", "int judge", "int fault int", "int take int", "boolean go int int",
        "int find int", "int path int", "boolean in int", "boolean out int", "int look int int", "int byteAt int int",
        "long number int", "int total int int", "int kinds int int", "int value int int", "int put int int int",
        "int name int", "int drop int", "boolean move int int", "int copy int int", "int set int int long",
        "int latest int", "void begin", "int write int", "int open int", "int close", "int lay int", "int sheet int",
        "int sheetAt int", "int taped",
    };

    public static void main(String[] args) {
        Checks checks = new Checks("FaceTest");
        TreeSet<String> due = new TreeSet<>(java.util.List.of(FACE));
        TreeSet<String> got = new TreeSet<>();
        TreeSet<String> names = new TreeSet<>();
        for (Method m : SpanShelves.class.getDeclaredMethods()) {
            if (!Modifier.isPrivate(m.getModifiers())) {
                StringBuilder line = new StringBuilder(m.getReturnType() + " " + m.getName());
                for (Class<?> type : m.getParameterTypes()) {
                    line.append(" ").append(type);
                }
                got.add(line.toString());
                names.add(m.getName());
                checks.same("public and not static: " + m.getName(), Modifier.PUBLIC, m.getModifiers());
            }
        }
        checks.same("methods", due.toString(), got.toString());
        refuseSharedNames(checks, names, SpanShelves.class);
        for (Class<?> inner : SpanShelves.class.getDeclaredClasses()) {
            refuseSharedNames(checks, names, inner);
            checks.same("static: " + inner, true, Modifier.isStatic(inner.getModifiers()));
        }
        for (Field f : SpanShelves.class.getDeclaredFields()) {
            if (!Modifier.isPrivate(f.getModifiers())) {
                checks.same("visible field", "NONE", f.getName());
                checks.same("NONE's modifiers", Modifier.PUBLIC | Modifier.STATIC | Modifier.FINAL, f.getModifiers());
            }
        }
        Constructor<?>[] made = SpanShelves.class.getDeclaredConstructors();
        checks.same("constructors", 1, made.length);
        checks.same("constructor's parameters", 0, made[0].getParameterCount());
        checks.same("class", Modifier.PUBLIC | Modifier.FINAL, SpanShelves.class.getModifiers());
        checks.same("NONE", -1, SpanShelves.NONE);
        checks.finish();
    }

    private static void refuseSharedNames(Checks checks, TreeSet<String> names, Class<?> c) {
        for (Method m : c.getDeclaredMethods()) {
            boolean face = c == SpanShelves.class && Modifier.isPublic(m.getModifiers());
            checks.same(c.getSimpleName() + "." + m.getName() + " bears a face name", face, names.contains(m.getName()));
        }
    }
}
