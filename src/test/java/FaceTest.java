import java.lang.reflect.Constructor;
import java.lang.reflect.Field;
import java.lang.reflect.Method;
import java.lang.reflect.Modifier;
import java.util.ArrayList;
import java.util.Arrays;
import java.util.List;
import java.util.TreeSet;

/** The public face: what the document tells of it, and nothing else that is not private. */
public final class FaceTest {
    private static final String[] METHODS = {"write 1", "wipe 0", "fault 0", "lay 0", "cord 2", "cluster 2",
        "group 2", "pendant 2", "tie 2", "more 2", "knot 4", "dye 2", "hang 2", "undo 0", "wrong 1", "mend 1",
        "slip 2", "lost 1", "closed 3", "order 1", "share 2", "make 1", "colours 2", "path 2", "same 2", "year 2",
        "keep 0", "back 0", "count 1"};
    private static final Checks CHECKS = new Checks();

    private FaceTest() {
    }

    public static void main(String[] args) throws IllegalAccessException {
        Class<?> face = ToldInKnots.class;
        CHECKS.holds("the class is public", Modifier.isPublic(face.getModifiers()));
        CHECKS.holds("the class is final", Modifier.isFinal(face.getModifiers()));
        constructors(face);
        constants(face);
        methods(face);
        classesInside(face);
        CHECKS.end("FaceTest");
    }

    private static void constructors(Class<?> face) {
        Constructor<?>[] all = face.getDeclaredConstructors();
        CHECKS.due("constructors", all.length, 1);
        CHECKS.due("what it takes", all[0].getParameterCount(), 0);
        CHECKS.holds("it is public", Modifier.isPublic(all[0].getModifiers()));
    }

    private static void constants(Class<?> face) throws IllegalAccessException {
        String[] names = {"BAD", "NO", "FULL", "NONE"};
        int open = 0;
        for (Field field : face.getDeclaredFields()) {
            int is = field.getModifiers();
            if (!Modifier.isPrivate(is)) {
                int place = Arrays.asList(names).indexOf(field.getName());
                CHECKS.holds(field.getName() + " is told", place >= 0);
                CHECKS.holds(field.getName() + " is constant",
                    Modifier.isPublic(is) && Modifier.isStatic(is) && Modifier.isFinal(is));
                CHECKS.due(field.getName(), field.getInt(null), -1 - place);
                open++;
            } else if (Modifier.isStatic(is)) {
                CHECKS.holds(field.getName() + " is final", Modifier.isFinal(is));
            }
        }
        CHECKS.due("constants", open, names.length);
    }

    private static void methods(Class<?> face) {
        List<String> open = new ArrayList<>();
        for (Method method : face.getDeclaredMethods()) {
            if (!Modifier.isPrivate(method.getModifiers()) && !method.isSynthetic()) {
                open.add(method.getName() + " " + method.getParameterCount());
                CHECKS.holds(method + " is public and of the object",
                    Modifier.isPublic(method.getModifiers()) && !Modifier.isStatic(method.getModifiers()));
                CHECKS.holds(method + " answers an int", method.getReturnType() == int.class);
                for (Class<?> taken : method.getParameterTypes()) {
                    CHECKS.holds(method + " takes ints", taken == int.class);
                }
            }
        }
        CHECKS.holds("the methods are " + open,
            open.size() == METHODS.length && new TreeSet<>(open).equals(new TreeSet<>(Arrays.asList(METHODS))));
    }

    private static void classesInside(Class<?> face) {
        TreeSet<String> names = new TreeSet<>();
        for (String method : METHODS) {
            names.add(method.substring(0, method.indexOf(' ')));
        }
        List<Class<?>> all = new ArrayList<>(Arrays.asList(face.getDeclaredClasses()));
        CHECKS.holds("some twelve classes", all.size() < 12);
        for (Class<?> inside : all) {
            int is = inside.getModifiers();
            CHECKS.holds(inside + " is static", Modifier.isStatic(is));
            CHECKS.holds(inside + " is not open", !Modifier.isPublic(is) && !Modifier.isProtected(is));
            for (Method method : inside.getDeclaredMethods()) {
                CHECKS.holds(method + " bears no name of the face", !names.contains(method.getName()));
            }
        }
        for (Method method : face.getDeclaredMethods()) {
            CHECKS.holds(method + " bears no name of the face",
                !Modifier.isPrivate(method.getModifiers()) || !names.contains(method.getName()));
        }
    }
}
