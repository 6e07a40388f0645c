import java.lang.reflect.Constructor;
import java.lang.reflect.Field;
import java.lang.reflect.Method;
import java.lang.reflect.Modifier;
import java.util.HashSet;
import java.util.Set;
import java.util.TreeSet;

/** The public face of the document, and the rules of LANGUAGE.md that the compiled class shows. */
public final class FaceTest {
    private static final String[] FACE = {
        "put 2", "remove 1", "clear 1", "sow 3", "size 0", "has 1", "get 1", "first 0", "last 0",
        "next 1", "previous 1", "rank 1", "select 1", "count 1", "sum 1", "longest 1", "common 1"};

    private static int wrong = 0;

    private static void holds(String what, boolean condition) {
        if (!condition) {
            wrong++;
            System.out.println("does not hold: " + what);
        }
    }

    private static boolean allowed(Class<?> type) {
        Class<?> plain = type.isArray() ? type.getComponentType() : type;
        return plain.isPrimitive() && plain != float.class && plain != double.class;
    }

    private static boolean allInts(Class<?>[] types) {
        for (Class<?> type : types) {
            if (type != int.class) {
                return false;
            }
        }
        return true;
    }

    private static void checkClass() {
        int modifiers = LayeredTree.class.getModifiers();
        holds("the class is public and final", Modifier.isPublic(modifiers) && Modifier.isFinal(modifiers));
        holds("the class has no package", LayeredTree.class.getPackageName().isEmpty());
        holds("nothing is inherited", LayeredTree.class.getSuperclass() == Object.class
            && LayeredTree.class.getInterfaces().length == 0);
        holds("no nested class", LayeredTree.class.getDeclaredClasses().length == 0);
        Constructor<?>[] constructors = LayeredTree.class.getDeclaredConstructors();
        holds("one public constructor without parameters", constructors.length == 1
            && Modifier.isPublic(constructors[0].getModifiers())
            && constructors[0].getParameterCount() == 0);
    }

    private static void checkMethods() {
        Set<String> open = new TreeSet<>();
        Set<String> openNames = new HashSet<>();
        for (Method method : LayeredTree.class.getDeclaredMethods()) {
            if (Modifier.isPublic(method.getModifiers())) {
                open.add(method.getName() + " " + method.getParameterCount());
                openNames.add(method.getName());
                holds(method + " is over int alone and not static", method.getReturnType() == int.class
                    && allInts(method.getParameterTypes()) && !Modifier.isStatic(method.getModifiers()));
            }
        }
        holds("the public methods are those of the document", open.equals(new TreeSet<>(Set.of(FACE))));
        for (Method method : LayeredTree.class.getDeclaredMethods()) {
            if (!Modifier.isPublic(method.getModifiers())) {
                holds(method + " is private", Modifier.isPrivate(method.getModifiers()));
                holds(method + " has a name of its own", !openNames.contains(method.getName()));
                holds(method + " has few parameters", method.getParameterCount() <= 7);
                holds(method + " answers no array", !method.getReturnType().isArray());
                for (Class<?> type : method.getParameterTypes()) {
                    holds(method + " has allowed types", allowed(type));
                }
            }
        }
    }

    private static void checkFields() {
        for (Field field : LayeredTree.class.getDeclaredFields()) {
            int modifiers = field.getModifiers();
            holds(field + " is private", Modifier.isPrivate(modifiers));
            holds(field + " has an allowed type", allowed(field.getType()));
            if (Modifier.isStatic(modifiers)) {
                holds(field + " is a constant of int or long", Modifier.isFinal(modifiers)
                    && (field.getType() == int.class || field.getType() == long.class));
            }
        }
    }

    public static void main(String[] args) {
        checkClass();
        checkMethods();
        checkFields();
        System.out.println(wrong == 0 ? "the face is as due" : wrong + " points are not as due");
        if (wrong != 0) {
            System.exit(1);
        }
    }
}
