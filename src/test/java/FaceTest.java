import java.lang.reflect.Array;
import java.lang.reflect.Constructor;
import java.lang.reflect.Field;
import java.lang.reflect.Method;
import java.lang.reflect.Modifier;
import java.util.Arrays;
import java.util.IdentityHashMap;
import java.util.Map;
import java.util.Set;
import java.util.TreeSet;

/** The public face is the document's, nothing else can be seen, and an object takes little room. */
public final class FaceTest {
    private static final String STATE = "IllegalStateException";
    private static final String ARGUMENT = "IllegalArgumentException";
    private static final String INDEX = "IndexOutOfBoundsException";
    private static final String UNSUPPORTED = "UnsupportedOperationException";

    private static final String[] FACE = {
        method("int", "glue", 2, STATE, ARGUMENT),
        method("int", "tile", 4, STATE, ARGUMENT, UNSUPPORTED),
        method("int", "temperature", 1, STATE, ARGUMENT),
        method("void", "seed", 3, INDEX, ARGUMENT, STATE),
        method("int", "clear", 0),
        method("void", "reset", 0),
        method("boolean", "attach", 3, INDEX, ARGUMENT),
        method("int", "grow", 1, ARGUMENT),
        method("int", "drawn", 2, ARGUMENT),
        method("int", "drop", 2, INDEX),
        method("int", "frontier", 0),
        method("int", "front", 2, INDEX, ARGUMENT),
        method("int", "at", 3, INDEX, ARGUMENT),
        method("int", "count", 1, ARGUMENT),
        method("int", "breach", 1, ARGUMENT),
        method("int", "finals", 1, STATE, ARGUMENT),
        method("int", "seam", 0, STATE, UNSUPPORTED),
        method("int", "counter", 3, STATE, ARGUMENT),
        method("int", "rule", 4, STATE, ARGUMENT),
    };

    private static final Checks CHECKS = new Checks("FaceTest");

    public static void main(String[] args) throws ReflectiveOperationException {
        face();
        members();
        room();
        CHECKS.finish();
    }

    private static String method(String type, String name, int numbers, String... thrown) {
        return type + " " + name + " of " + numbers + " " + Arrays.toString(thrown);
    }

    private static void face() {
        CHECKS.holds("public and final", true,
            TileBench.class.getModifiers() == (Modifier.PUBLIC | Modifier.FINAL));
        Set<String> seen = new TreeSet<>();
        for (Method m : TileBench.class.getDeclaredMethods()) {
            if (Modifier.isPublic(m.getModifiers())) {
                String[] thrown = Arrays.stream(m.getExceptionTypes()).map(Class::getSimpleName).toArray(String[]::new);
                seen.add(method(m.getReturnType().getName(), m.getName(), m.getParameterCount(), thrown));
                CHECKS.holds(m + " is no static one", false, Modifier.isStatic(m.getModifiers()));
                for (Class<?> parameter : m.getParameterTypes()) {
                    CHECKS.holds(m + " takes ints", true, parameter == int.class);
                }
            }
        }
        CHECKS.same("the public methods", new TreeSet<>(Arrays.asList(FACE)).toString(), seen.toString());
        Constructor<?>[] constructors = TileBench.class.getDeclaredConstructors();
        CHECKS.due("constructors", 1, () -> constructors.length);
        CHECKS.same("the constructor", "public TileBench()", constructors[0].toString());
        CHECKS.due("NONE", -1, () -> TileBench.NONE);
    }

    private static void members() {
        Set<String> names = new TreeSet<>();
        for (String member : FACE) {
            names.add(member.split(" ")[1]);
        }
        for (Method m : TileBench.class.getDeclaredMethods()) {
            boolean open = Modifier.isPublic(m.getModifiers());
            CHECKS.holds(m + " is public or private", true, open || Modifier.isPrivate(m.getModifiers()));
            CHECKS.holds(m + " bears a name of its own", true, open || !names.contains(m.getName()));
        }
        for (Field f : TileBench.class.getDeclaredFields()) {
            boolean open = Modifier.isPublic(f.getModifiers()) && f.getName().equals("NONE");
            CHECKS.holds(f + " is private", true, open || Modifier.isPrivate(f.getModifiers()));
        }
        for (Class<?> inside : TileBench.class.getDeclaredClasses()) {
            CHECKS.holds(inside + " is static", true, Modifier.isStatic(inside.getModifiers()));
            CHECKS.holds(inside + " is not public", false, Modifier.isPublic(inside.getModifiers()));
            for (Method m : inside.getDeclaredMethods()) {
                CHECKS.holds(m + " bears a name of its own", false, names.contains(m.getName()));
            }
        }
    }

    /** A run of 512 calls could make as many objects: all of them must fit into one room. */
    private static void room() throws ReflectiveOperationException {
        Map<Object, Boolean> seen = new IdentityHashMap<>();
        long elements = elementsOf(new TileBench(), seen);
        System.out.println("FaceTest: a new object is " + seen.size() + " objects, " + elements + " fields and elements");
        CHECKS.holds("512 times the objects", true, 512L * seen.size() < 600_000);
        CHECKS.holds("512 times the fields and elements", true, 512L * elements < 7_300_000);
    }

    private static long elementsOf(Object object, Map<Object, Boolean> seen) throws ReflectiveOperationException {
        if (object == null || seen.put(object, true) != null) {
            return 0;
        }
        if (object.getClass().isArray()) {
            return Array.getLength(object);
        }
        long elements = 0;
        for (Field f : object.getClass().getDeclaredFields()) {
            if (!Modifier.isStatic(f.getModifiers())) {
                f.setAccessible(true);
                elements++;
                elements += f.getType().isPrimitive() ? 0 : elementsOf(f.get(object), seen);
            }
        }
        return elements;
    }
}
