import java.lang.reflect.Constructor;
import java.lang.reflect.Field;
import java.lang.reflect.Method;
import java.lang.reflect.Modifier;
import java.util.Set;
import java.util.TreeSet;

/** The public face is the document's, no more and no less; all else is private. */
public final class FaceTest {
    private static final Set<String> METHODS = new TreeSet<>(Set.of(
            "set 3", "combine 4", "shift 3", "narrow 3", "suppose 3", "compare 3", "value 1", "mask 1",
            "least 2", "count 3"));

    public static void main(String[] args) {
        Class<?> face = KnownBits.class;
        yes("public", Modifier.isPublic(face.getModifiers()));
        yes("final", Modifier.isFinal(face.getModifiers()));
        yes("no package", face.getPackageName().isEmpty());
        yes("no nested class", face.getDeclaredClasses().length == 0);
        constructor(face);
        methods(face);
        fields(face);
        Check.end();
    }

    private static void yes(String what, boolean so) {
        Check.due(what, so ? 1 : 0, 1);
    }

    private static void constructor(Class<?> face) {
        Constructor<?>[] all = face.getDeclaredConstructors();
        Check.due("constructors", all.length, 1);
        yes("public constructor", Modifier.isPublic(all[0].getModifiers()));
        Check.due("constructor's parameters", all[0].getParameterCount(), 0);
    }

    private static void methods(Class<?> face) {
        Set<String> found = new TreeSet<>();
        Set<String> hidden = new TreeSet<>();
        for (Method method : face.getDeclaredMethods()) {
            if (Modifier.isPrivate(method.getModifiers())) {
                hidden.add(method.getName());
                continue;
            }
            yes("public " + method, Modifier.isPublic(method.getModifiers()));
            yes("not static " + method, !Modifier.isStatic(method.getModifiers()));
            yes("answers int " + method, method.getReturnType() == int.class);
            for (Class<?> type : method.getParameterTypes()) {
                yes("takes int " + method, type == int.class);
            }
            found.add(method.getName() + " " + method.getParameterCount());
        }
        yes("methods " + found, found.equals(METHODS));
        for (String name : METHODS) {
            yes("name not hidden " + name, !hidden.contains(name.split(" ")[0]));
        }
    }

    private static void fields(Class<?> face) {
        for (Field field : face.getDeclaredFields()) {
            yes("private " + field, Modifier.isPrivate(field.getModifiers()));
        }
    }
}
