import java.io.IOException;
import java.lang.reflect.Field;
import java.lang.reflect.Method;
import java.lang.reflect.Modifier;
import java.nio.file.Files;
import java.nio.file.Path;
import java.util.ArrayList;
import java.util.List;
import java.util.Set;
import java.util.regex.Matcher;
import java.util.regex.Pattern;

/** The rules of LANGUAGE.md that can be seen in the program's file and in its classes. */
public final class LanguageTest {
    private static final Set<Class<?>> CONSTANTS = Set.of(
            int.class, long.class, boolean.class, char.class, String.class,
            int[].class, long[].class, char[].class, byte[].class);
    private static final Pattern FORBIDDEN = Pattern.compile(
            "\\b(package|import|synchronized|assert|finally|throws|volatile|transient|native"
                    + "|Thread|System\\.(?!arraycopy)\\w+|\\w+Exact)\\b|->|::|\\bstatic \\{");
    private static final Pattern LIBRARY = Pattern.compile("\\b(Math|Integer|Long)\\.(\\w+)");
    private static final Set<String> FUNCTIONS = Set.of(
            "compare", "max", "min", "abs", "bitCount", "floorDiv", "floorMod");

    public static void main(String[] args) throws IOException {
        List<String> lines = code(Files.readString(Path.of("src/main/java/LinePatcher.java")));
        nothingForbiddenStandsInTheFile(lines);
        methodsStayShort(lines);
        List<Class<?>> classes = allClasses();
        Check.due("rule 11: some twelve classes", classes.size() <= 12 ? 1 : 0, 1);
        for (Class<?> each : classes) {
            classInsideIsStaticAndHidden(each);
            fieldsAreAsAllowed(each);
            methodsAreAsAllowed(each);
        }
        Check.end();
    }

    /** The file's lines without comments, and without what is written in quotes. */
    private static List<String> code(String file) {
        String bare = file.replaceAll("(?s)/\\*.*?\\*/", "").replaceAll("//[^\n]*", "");
        return bare.replaceAll("\"[^\"\n]*\"", "\"\"").lines().toList();
    }

    private static List<Class<?>> allClasses() {
        List<Class<?>> classes = new ArrayList<>();
        classes.add(LinePatcher.class);
        for (int next = 0; next < classes.size(); next++) {
            classes.addAll(List.of(classes.get(next).getDeclaredClasses()));
        }
        return classes;
    }

    private static void nothingForbiddenStandsInTheFile(List<String> lines) {
        for (String line : lines) {
            Check.due("rules 2 to 6, 13: " + line, FORBIDDEN.matcher(line).find() ? 1 : 0, 0);
            Matcher function = LIBRARY.matcher(line);
            while (function.find()) {
                boolean isAllowed = FUNCTIONS.contains(function.group(2));
                Check.due("rule 4: " + function.group(), isAllowed ? 1 : 0, 1);
            }
        }
    }

    /** Rule 11: a method ends at a closing brace that is as deep as its first line. */
    private static void methodsStayShort(List<String> lines) {
        for (int first = 0; first < lines.size(); first++) {
            String line = lines.get(first);
            String indent = line.substring(0, line.length() - line.stripLeading().length());
            if (line.endsWith(") {") && (indent.length() == 4 || indent.length() == 8)) {
                int last = first;
                while (!lines.get(last).equals(indent + "}") && last < lines.size() - 1) {
                    last++;
                }
                Check.due("rule 11: " + line.strip(), last - first < 60 ? 1 : 0, 1);
            }
        }
    }

    private static void classInsideIsStaticAndHidden(Class<?> each) {
        int modifiers = each.getModifiers();
        if (each != LinePatcher.class) {
            boolean isHidden = !Modifier.isPublic(modifiers) && !Modifier.isProtected(modifiers);
            Check.due("rule 1: " + each, isHidden && Modifier.isStatic(modifiers) ? 1 : 0, 1);
        }
    }

    private static void fieldsAreAsAllowed(Class<?> each) {
        int fields = 0;
        for (Field field : each.getDeclaredFields()) {
            if (Modifier.isStatic(field.getModifiers())) {
                boolean isConstant = Modifier.isFinal(field.getModifiers())
                        && CONSTANTS.contains(field.getType());
                Check.due("rule 5: " + field, isConstant ? 1 : 0, 1);
            } else {
                fields++;
            }
        }
        Check.due("rule 11: some twenty fields in " + each, fields <= 20 ? 1 : 0, 1);
    }

    private static void methodsAreAsAllowed(Class<?> each) {
        for (Method method : each.getDeclaredMethods()) {
            Check.due("rule 11: " + method, method.getParameterCount() <= 7 ? 1 : 0, 1);
            boolean hasOwn = Set.of("equals", "hashCode", "toString").contains(method.getName());
            Check.due("rule 6: " + method, hasOwn ? 1 : 0, 0);
        }
    }
}
