import java.lang.reflect.Constructor;
import java.lang.reflect.Field;
import java.lang.reflect.Method;
import java.lang.reflect.Modifier;
import java.util.Arrays;
import java.util.Set;
import java.util.TreeSet;

/** The public face is the document's, and nothing else can be seen from outside. */
public final class FaceTest {
    private static final String[] METHODS = {"int type(int)", "int enter()", "int wipe()", "int add()", "int drop(int)",
        "int tag(int,int,boolean)", "int search()", "int errorAt()", "int hit(int)", "int related(int)",
        "int idOf(int)", "int answers(int)", "int root(int)", "long word(int,int)", "int field(int,int)",
        "int count(int)"};
    private static final String[] CONSTANTS = {"OK", "REFUSED", "FULL", "BAD", "NONE"};

    public static void main(String[] args) {
        Class<?> face = ThreadedArchive.class;
        Check.due("OK", ThreadedArchive.OK, 0);
        Check.due("REFUSED", ThreadedArchive.REFUSED, -1);
        Check.due("FULL", ThreadedArchive.FULL, -2);
        Check.due("BAD", ThreadedArchive.BAD, -3);
        Check.due("NONE", ThreadedArchive.NONE, -4);
        Check.due("public and final", Modifier.isPublic(face.getModifiers()) && Modifier.isFinal(face.getModifiers()));
        dueMethods(face);
        dueFields(face);
        Constructor<?>[] constructors = face.getDeclaredConstructors();
        Check.due("constructors", constructors.length, 1);
        Check.due("constructor without arguments", constructors[0].getParameterCount(), 0);
        Check.due("public constructor", Modifier.isPublic(constructors[0].getModifiers()));
        Check.due("some twelve classes", face.getDeclaredClasses().length <= 13);
        for (Class<?> inside : face.getDeclaredClasses()) {
            dueInside(inside);
        }
        Check.end();
    }

    private static void dueMethods(Class<?> face) {
        Set<String> seen = new TreeSet<>();
        for (Method method : face.getDeclaredMethods()) {
            if (!Modifier.isPrivate(method.getModifiers())) {
                String parameters = Arrays.toString(method.getParameterTypes()).replaceAll("[\\[\\] ]", "");
                seen.add(method.getReturnType() + " " + method.getName() + "(" + parameters + ")");
                Check.due(method.getName() + " is public and of the object", method.getModifiers(), Modifier.PUBLIC);
            }
            dueRules(method);
        }
        Check.due("methods " + seen, seen.equals(new TreeSet<>(Arrays.asList(METHODS))));
    }

    private static void dueRules(Method method) {
        Check.due(method.getName() + " has at most seven parameters", method.getParameterCount() <= 7);
        if (Modifier.isPrivate(method.getModifiers())) {
            dueOwnName(method);
        }
    }

    private static void dueOwnName(Method method) {
        for (String known : METHODS) {
            Check.due(method.getName() + " is no public name", !known.contains(" " + method.getName() + "("));
        }
    }

    private static void dueFields(Class<?> face) {
        Set<String> seen = new TreeSet<>();
        for (Field field : face.getDeclaredFields()) {
            if (!Modifier.isPrivate(field.getModifiers())) {
                seen.add(field.getName());
                Check.due(field.getName() + " is an int", field.getType() == int.class);
            }
            dueFinalIfStatic(field);
        }
        Check.due("constants " + seen, seen.equals(new TreeSet<>(Arrays.asList(CONSTANTS))));
    }

    private static void dueInside(Class<?> inside) {
        String name = inside.getSimpleName();
        int modifiers = inside.getModifiers();
        Check.due(name + " is static", Modifier.isStatic(modifiers));
        Check.due(name + " is not seen outside", !Modifier.isPublic(modifiers) && !Modifier.isProtected(modifiers));
        for (Method method : inside.getDeclaredMethods()) {
            dueRules(method);
        }
        for (Field field : inside.getDeclaredFields()) {
            dueFinalIfStatic(field);
        }
    }

    private static void dueFinalIfStatic(Field field) {
        Check.due(field.getName() + " is final if static",
                !Modifier.isStatic(field.getModifiers()) || Modifier.isFinal(field.getModifiers()));
    }
}
