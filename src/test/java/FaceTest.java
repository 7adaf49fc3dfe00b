import java.lang.reflect.Constructor;
import java.lang.reflect.Field;
import java.lang.reflect.Method;
import java.lang.reflect.Modifier;
import java.util.Set;
import java.util.TreeSet;

/** The public face is the document's and no more, and the fields keep to LANGUAGE.md (rules 1, 2 and 5). */
public final class FaceTest {
    private static final Set<String> FACE = Set.of(
        "put/3", "remove/2", "clear/2", "scatter/3", "move/2", "size/0", "has/2", "valueAt/2", "count/2",
        "sum/2", "most/2", "point/3", "nearest/2", "within/3", "closest/0", "line/2", "frontier/0");

    private FaceTest() {
    }

    public static void main(String[] args) {
        Class<?> face = GridFileIndex.class;
        Due.yes("public and final", Modifier.isPublic(face.getModifiers()) && Modifier.isFinal(face.getModifiers()));
        Due.yes("no nested class", face.getDeclaredClasses().length == 0);
        Due.yes("no other class above it", face.getSuperclass() == Object.class && face.getInterfaces().length == 0);
        constructors(face);
        methods(face);
        fields(face);
        Due.finish();
    }

    private static void constructors(Class<?> face) {
        Constructor<?>[] all = face.getDeclaredConstructors();
        Due.same("constructors", all.length, 1);
        Due.yes("a public constructor", Modifier.isPublic(all[0].getModifiers()));
        Due.same("its parameters", all[0].getParameterCount(), 0);
    }

    private static void methods(Class<?> face) {
        Set<String> seen = new TreeSet<>();
        Set<String> publicNames = new TreeSet<>();
        for (String signature : FACE) {
            publicNames.add(signature.substring(0, signature.indexOf('/')));
        }
        for (Method method : face.getDeclaredMethods()) {
            String name = method.getName();
            if (Modifier.isPrivate(method.getModifiers())) {
                Due.yes("private " + name + " bears no public name", !publicNames.contains(name));
                continue;
            }
            seen.add(name + "/" + method.getParameterCount());
            Due.yes(name + " is public", Modifier.isPublic(method.getModifiers()));
            Due.yes(name + " is not static", !Modifier.isStatic(method.getModifiers()));
            Due.yes(name + " answers an int", method.getReturnType() == int.class);
            for (Class<?> type : method.getParameterTypes()) {
                Due.yes(name + " takes ints", type == int.class);
            }
        }
        Due.yes("the methods are the document's: " + seen, seen.equals(new TreeSet<>(FACE)));
    }

    private static void fields(Class<?> face) {
        for (Field field : face.getDeclaredFields()) {
            String name = field.getName();
            Class<?> type = field.getType();
            Class<?> element = type.isArray() ? type.getComponentType() : type;
            Due.yes(name + " is private", Modifier.isPrivate(field.getModifiers()));
            Due.yes(name + " holds whole numbers", element.isPrimitive() && element != float.class && element != double.class);
            if (Modifier.isStatic(field.getModifiers())) {
                Due.yes(name + " is a constant", Modifier.isFinal(field.getModifiers()) && (type == int.class || type == long.class));
            }
        }
    }
}
