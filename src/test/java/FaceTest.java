import java.lang.reflect.Constructor;
import java.lang.reflect.Field;
import java.lang.reflect.Method;
import java.lang.reflect.Modifier;
import java.util.Set;
import java.util.TreeSet;

/** The public face: just the constants, the constructor and the methods of the document. */
public final class FaceTest {
    private static final Set<String> METHODS = Set.of(
            "add(int, long, int)", "clear(int)", "size(int)", "line(int, int)",
            "compare(int, int, int)", "match(int)", "write(int)", "type(long, int)", "wipe()",
            "character(int)", "read()", "apply(int)", "merge()");

    public static void main(String[] args) {
        Check.due("BAD", LinePatcher.BAD, -1);
        Check.due("FULL", LinePatcher.FULL, -2);
        Check.due("NONE", LinePatcher.NONE, -3);
        int modifiers = LinePatcher.class.getModifiers();
        Check.due("public final", modifiers, Modifier.PUBLIC | Modifier.FINAL);
        Check.due("the methods", visibleMethods().toString(), new TreeSet<>(METHODS).toString());
        Check.due("the constants", visibleFields().toString(), "[BAD, FULL, NONE]");
        Constructor<?>[] constructors = LinePatcher.class.getDeclaredConstructors();
        Check.due("constructors", constructors.length, 1);
        Check.due("its parameters", constructors[0].getParameterCount(), 0);
        Check.due("its modifiers", constructors[0].getModifiers(), Modifier.PUBLIC);
        noPrivateMethodHasAPublicName();
        Check.end();
    }

    private static Set<String> visibleMethods() {
        Set<String> methods = new TreeSet<>();
        for (Method method : LinePatcher.class.getDeclaredMethods()) {
            if (!Modifier.isPrivate(method.getModifiers())) {
                Check.due(method + " is public", method.getModifiers(), Modifier.PUBLIC);
                Check.due(method + " answers", method.getReturnType().getName(), "int");
                methods.add(nameOf(method));
            }
        }
        return methods;
    }

    private static Set<String> visibleFields() {
        Set<String> fields = new TreeSet<>();
        for (Field field : LinePatcher.class.getDeclaredFields()) {
            if (!Modifier.isPrivate(field.getModifiers())) {
                fields.add(field.getName());
            }
            if (Modifier.isStatic(field.getModifiers())) {
                Check.due(field + " is final", Modifier.isFinal(field.getModifiers()) ? 1 : 0, 1);
            }
        }
        return fields;
    }

    private static void noPrivateMethodHasAPublicName() {
        for (Method method : LinePatcher.class.getDeclaredMethods()) {
            if (Modifier.isPrivate(method.getModifiers())) {
                for (String face : METHODS) {
                    boolean isSame = face.startsWith(method.getName() + "(");
                    Check.due("private " + method.getName(), isSame ? 1 : 0, 0);
                }
            }
        }
    }

    private static String nameOf(Method method) {
        StringBuilder name = new StringBuilder(method.getName()).append('(');
        Class<?>[] types = method.getParameterTypes();
        for (int i = 0; i < types.length; i++) {
            name.append(i == 0 ? "" : ", ").append(types[i].getName());
        }
        return name.append(')').toString();
    }
}
