import java.io.File;
import java.io.IOException;
import java.lang.reflect.Method;
import java.lang.reflect.Modifier;
import java.nio.file.Files;
import java.nio.file.Path;
import java.util.List;
import java.util.regex.Matcher;
import java.util.regex.Pattern;

/** README.md: its example answers what it says there, and it names all calls and all tests. */
public final class ReadmeTest {
    private static final Pattern CALL =
            Pattern.compile("patcher\\.(\\w+)\\((.*?)\\); +// (-?\\d+)\\b.*");

    public static void main(String[] args) throws IOException, ReflectiveOperationException {
        String readme = Files.readString(Path.of("README.md"));
        exampleAnswersAsItSays(readme);
        paperIsAsItSays(readme);
        allCallsAreNamed(readme);
        allTestsAreNamed(readme);
        Check.end();
    }

    private static void exampleAnswersAsItSays(String readme) throws ReflectiveOperationException {
        LinePatcher patcher = new LinePatcher();
        List<String> lines = example(readme).lines().toList();
        Check.due("the example begins", lines.get(0), "LinePatcher patcher = new LinePatcher();");
        for (String line : lines.subList(1, lines.size())) {
            Matcher call = CALL.matcher(line);
            Check.due("a call with its answer: " + line, call.matches() ? 1 : 0, 1);
            if (call.matches()) {
                long answer = answerOf(patcher, call.group(1), call.group(2));
                Check.due("README: " + line, answer, Long.parseLong(call.group(3)));
            }
        }
        Check.due("text 3 of the example", Check.textOf(patcher, 3), "a<x=y>c");
    }

    private static void paperIsAsItSays(String readme) {
        LinePatcher patcher = Check.withTexts("abc", "axc");
        patcher.compare(0, 1, 0);
        patcher.write(1);
        String paper = Check.paperOf(patcher).replace("\n", "\\n");
        Check.due("README tells the paper", readme.contains("\"" + paper + "\"") ? 1 : 0, 1);
    }

    private static String example(String readme) {
        int from = readme.indexOf("```java\n") + 8;
        return readme.substring(from, readme.indexOf("```", from));
    }

    private static long answerOf(LinePatcher patcher, String name, String written)
            throws ReflectiveOperationException {
        String[] words = written.isEmpty() ? new String[0] : written.split(", ");
        Object[] values = new Object[words.length];
        Class<?>[] types = new Class<?>[words.length];
        for (int i = 0; i < words.length; i++) {
            boolean isLong = words[i].endsWith("L");
            types[i] = isLong ? long.class : int.class;
            if (isLong) {
                values[i] = Long.decode(words[i].substring(0, words[i].length() - 1));
            } else {
                values[i] = Integer.decode(words[i]);
            }
        }
        Method method = LinePatcher.class.getMethod(name, types);
        return (Integer) method.invoke(patcher, values);
    }

    private static void allCallsAreNamed(String readme) {
        for (Method method : LinePatcher.class.getDeclaredMethods()) {
            if (Modifier.isPublic(method.getModifiers())) {
                boolean isNamed = readme.contains("| `" + method.getName() + "(");
                Check.due("README names " + method.getName(), isNamed ? 1 : 0, 1);
            }
        }
    }

    private static void allTestsAreNamed(String readme) {
        String[] files = new File("src/test/java").list();
        Check.due("there are tests", files != null && files.length > 0 ? 1 : 0, 1);
        for (String file : files == null ? new String[0] : files) {
            if (file.endsWith("Test.java")) {
                String row = "| `" + file.replace(".java", "") + "` |";
                Check.due("README names " + file, readme.contains(row) ? 1 : 0, 1);
            }
        }
    }
}
