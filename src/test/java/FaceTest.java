import java.lang.reflect.Field;
import java.lang.reflect.Method;
import java.lang.reflect.Modifier;
import java.util.Set;
import java.util.TreeSet;

/** The class's face is the document's and no more, and its members keep to LANGUAGE.md's rules 1, 2 and 5. */
public final class FaceTest {
    private static final Set<String> METHODS = Set.of(
        "int write(int,int)", "int flush()", "int flushSome(int)", "int crash(int)", "int damage(int,int)",
        "int scrub()", "int read(int)", "boolean readable(int)", "int pending()", "int atRisk()", "int durable()");
    private static final Set<String> CONSTANTS = Set.of("BAD_SECTOR", "FULL");
    private static final Set<Class<?>> FIELD_TYPES = Set.of(
        int.class, long.class, short.class, byte.class, char.class, boolean.class,
        int[].class, long[].class, short[].class, byte[].class, char[].class, boolean[].class);

    public static void main(String[] args) {
        Class<?> face = IntegrityLayer.class;
        Due.holds("the class is public and final",
            Modifier.isPublic(face.getModifiers()) && Modifier.isFinal(face.getModifiers()));
        Due.is("nested classes", face.getDeclaredClasses().length, 0);
        Due.is("constructors", face.getDeclaredConstructors().length, 1);
        Due.is("public constructors without arguments", face.getConstructors().length, 1);
        Due.is("the constructor's arguments", face.getDeclaredConstructors()[0].getParameterCount(), 0);
        methods(face);
        fields(face);
        Due.end();
    }

    private static void methods(Class<?> face) {
        Set<String> found = new TreeSet<>();
        Set<String> publicNames = new TreeSet<>();
        for (Method m : face.getDeclaredMethods()) {
            if (Modifier.isPublic(m.getModifiers())) {
                found.add(text(m));
                publicNames.add(m.getName());
                Due.holds(m + " is an instance method", !Modifier.isStatic(m.getModifiers()));
            }
        }
        Due.holds("the public methods are the document's: " + found, found.equals(METHODS));
        for (Method m : face.getDeclaredMethods()) {
            if (!Modifier.isPublic(m.getModifiers())) {
                Due.holds(m + " is private", Modifier.isPrivate(m.getModifiers()));
                Due.holds(m + " has a name of its own", !publicNames.contains(m.getName()));
            }
        }
    }

    private static String text(Method m) {
        StringBuilder arguments = new StringBuilder();
        for (Class<?> p : m.getParameterTypes()) {
            arguments.append(arguments.length() == 0 ? "" : ",").append(p.getName());
        }
        return m.getReturnType().getName() + " " + m.getName() + "(" + arguments + ")";
    }

    private static void fields(Class<?> face) {
        Set<String> found = new TreeSet<>();
        for (Field f : face.getDeclaredFields()) {
            int modifiers = f.getModifiers();
            if (Modifier.isPublic(modifiers)) {
                found.add(f.getName());
                Due.holds(f + " is a constant int", Modifier.isStatic(modifiers) && f.getType() == int.class);
            } else {
                Due.holds(f + " is private", Modifier.isPrivate(modifiers));
            }
            if (Modifier.isStatic(modifiers)) {
                Due.holds(f + " is a constant int or long",
                    Modifier.isFinal(modifiers) && (f.getType() == int.class || f.getType() == long.class));
            }
            Due.holds(f + " has an allowed type", FIELD_TYPES.contains(f.getType()));
        }
        Due.holds("the public constants are the document's: " + found, found.equals(CONSTANTS));
    }
}
