import java.lang.reflect.Constructor;
import java.lang.reflect.Field;
import java.lang.reflect.Method;
import java.lang.reflect.Modifier;
import java.util.Set;
import java.util.TreeSet;

/** The members of the class: the document's public face and, beside it, only private ones. */
public final class FaceTest {
    private static final String[] FACE = {
        "element/0", "text/0", "put/3", "take/1", "replace/4", "split/2", "join/1", "setStart/3",
        "setEnd/3", "erase/1", "nodes/0", "kind/1", "size/1", "parent/1", "item/2", "nodeOf/2",
        "offsetOf/2", "compare/4", "letters/1", "letterIn/2", "holds/2",
    };

    private static int wrong = 0;

    private static void must(boolean holds, String what) {
        if (!holds) {
            wrong++;
            System.out.println("not so: " + what);
        }
    }

    public static void main(String[] args) {
        Class<?> type = LiveRanges.class;
        must(Modifier.isPublic(type.getModifiers()), "the class is public");
        must(Modifier.isFinal(type.getModifiers()), "the class is final");
        must(type.getDeclaredClasses().length == 0, "there is no nested class");
        must(type.getDeclaredConstructors().length == 1, "there is one constructor");
        for (Constructor<?> made : type.getDeclaredConstructors()) {
            must(Modifier.isPublic(made.getModifiers()) && made.getParameterCount() == 0,
                "the constructor is public and takes nothing");
        }
        for (Field field : type.getDeclaredFields()) {
            must(Modifier.isPrivate(field.getModifiers()), "field " + field.getName() + " is private");
        }
        checkMethods(type);
        System.out.println(wrong == 0 ? "the face is as due" : wrong + " things are not as due");
        if (wrong != 0) {
            System.exit(1);
        }
    }

    private static void checkMethods(Class<?> type) {
        Set<String> due = new TreeSet<>(Set.of(FACE));
        Set<String> names = new TreeSet<>();
        for (String entry : FACE) {
            names.add(entry.substring(0, entry.indexOf('/')));
        }
        Set<String> found = new TreeSet<>();
        for (Method method : type.getDeclaredMethods()) {
            if (Modifier.isPrivate(method.getModifiers())) {
                must(!names.contains(method.getName()),
                    "private method " + method.getName() + " has a name of its own");
            } else {
                found.add(method.getName() + "/" + method.getParameterCount());
                must(Modifier.isPublic(method.getModifiers()), method.getName() + " is public");
                must(method.getReturnType() == int.class, method.getName() + " answers an int");
            }
        }
        must(found.equals(due), "public methods are " + due + ", found " + found);
    }
}
