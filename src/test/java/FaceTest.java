import java.lang.reflect.Constructor;
import java.lang.reflect.Field;
import java.lang.reflect.Method;
import java.lang.reflect.Modifier;
import java.util.Set;
import java.util.TreeSet;

/** The public face: what the document writes there, and no other member that is not private. */
public final class FaceTest {
    private static final Set<String> METHODS = Set.of(
            "put(int,int)", "fill(int,int,int,int)", "kernel(int,int)", "pixel(int)", "shape(int,int)",
            "move()", "width()", "result(int,int)", "floor()", "thin()", "divide(int)", "take(int)",
            "sum()", "peak()", "way(int)");

    private static final Due due = new Due();

    public static void main(String[] args) {
        Class<ConvKernels> type = ConvKernels.class;
        due.holds("the class is public and final", type.getModifiers() == (Modifier.PUBLIC | Modifier.FINAL));
        due.holds("the class has no nested class", type.getDeclaredClasses().length == 0);
        due.holds("the class has no parent or interface",
                type.getSuperclass() == Object.class && type.getInterfaces().length == 0);
        methods(type);
        constructors(type);
        fields(type);
        due.is("BAD_ARG", ConvKernels.BAD_ARG, -1000000);
        due.end();
    }

    private static void methods(Class<?> type) {
        Set<String> open = new TreeSet<>();
        Set<String> openNames = new TreeSet<>();
        for (Method method : type.getDeclaredMethods()) {
            if (!Modifier.isPrivate(method.getModifiers())) {
                String full = method.toString();
                open.add(full.substring(full.indexOf("ConvKernels.") + "ConvKernels.".length()));
                openNames.add(method.getName());
                due.holds(method + " is public int, and no more",
                        method.getModifiers() == Modifier.PUBLIC && method.getReturnType() == int.class);
            }
        }
        due.holds("the open methods are " + METHODS + ", found " + open, open.equals(METHODS));
        for (Method method : type.getDeclaredMethods()) {
            if (Modifier.isPrivate(method.getModifiers())) {
                due.holds(method + " bears no public name", !openNames.contains(method.getName()));
                due.holds(method + " takes at most seven parameters", method.getParameterCount() <= 7);
            }
        }
    }

    private static void constructors(Class<?> type) {
        Constructor<?>[] constructors = type.getDeclaredConstructors();
        due.is("number of constructors", constructors.length, 1);
        due.holds("the constructor is public and takes nothing",
                constructors[0].getModifiers() == Modifier.PUBLIC && constructors[0].getParameterCount() == 0);
    }

    private static void fields(Class<?> type) {
        for (Field field : type.getDeclaredFields()) {
            if (field.getName().equals("BAD_ARG")) {
                due.holds("BAD_ARG is public static final int", field.getType() == int.class
                        && field.getModifiers() == (Modifier.PUBLIC | Modifier.STATIC | Modifier.FINAL));
            } else {
                due.holds(field + " is private", Modifier.isPrivate(field.getModifiers()));
            }
            if (Modifier.isStatic(field.getModifiers())) {
                due.holds(field + " is a constant of int or long", Modifier.isFinal(field.getModifiers())
                        && (field.getType() == int.class || field.getType() == long.class));
            }
        }
    }
}
