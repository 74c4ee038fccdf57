import java.io.File;
import java.io.IOException;
import java.lang.reflect.Method;
import java.lang.reflect.Modifier;
import java.nio.file.Files;
import java.nio.file.Path;
import java.util.List;
import java.util.Set;
import java.util.TreeSet;
import java.util.regex.Matcher;
import java.util.regex.Pattern;

/**
 * README.md says what is so: its example's answers, the calls of the class and the names of the
 * tests. It is looked for in the directory that the test is started in, as .ci/run does it.
 */
public final class ReadmeTest {
    private static final String NEW_OBJECT = "KnownBits bits = new KnownBits();";
    private static final Pattern CALL = Pattern.compile("bits\\.(\\w+)\\(([-0-9, ]+)\\); +// (-?\\d+): .+");
    private static final Pattern ROW = Pattern.compile("\\| `(\\w+)\\(([a-z, ]+)\\)` \\|.*");
    private static final Pattern TEST = Pattern.compile("`(\\w+Test)`");

    public static void main(String[] args) throws IOException, ReflectiveOperationException {
        List<String> lines = Files.readAllLines(Path.of("README.md"));
        exampleAnswersAsItSays(lines);
        everyCallHasARow(lines);
        everyTestIsNamed(lines);
        Check.end();
    }

    private static void exampleAnswersAsItSays(List<String> lines) throws ReflectiveOperationException {
        int start = lines.indexOf("```java") + 1;
        List<String> example = lines.subList(start, start + lines.subList(start, lines.size()).indexOf("```"));
        yes("the example begins with a new object", example.get(0).equals(NEW_OBJECT));
        KnownBits bits = new KnownBits();
        for (String line : example.subList(1, example.size())) {
            Matcher call = CALL.matcher(line);
            yes("a call and its answer: " + line, call.matches());
            if (call.matches()) {
                Check.due(line, answer(bits, call.group(1), call.group(2)), Integer.parseInt(call.group(3)));
            }
        }
    }

    private static int answer(KnownBits bits, String name, String numbers) throws ReflectiveOperationException {
        String[] parts = numbers.split(", ");
        Class<?>[] types = new Class<?>[parts.length];
        Object[] arguments = new Object[parts.length];
        for (int k = 0; k < parts.length; k++) {
            types[k] = int.class;
            arguments[k] = Integer.valueOf(parts[k]);
        }
        return (int) KnownBits.class.getMethod(name, types).invoke(bits, arguments);
    }

    private static void everyCallHasARow(List<String> lines) {
        Set<String> told = new TreeSet<>();
        for (String line : lines) {
            Matcher row = ROW.matcher(line);
            if (row.matches()) {
                told.add(row.group(1) + " " + row.group(2).split(", ").length);
            }
        }
        Set<String> there = new TreeSet<>();
        for (Method method : KnownBits.class.getDeclaredMethods()) {
            if (Modifier.isPublic(method.getModifiers())) {
                there.add(method.getName() + " " + method.getParameterCount());
            }
        }
        same("calls", told, there);
    }

    private static void everyTestIsNamed(List<String> lines) {
        Set<String> told = new TreeSet<>();
        Matcher test = TEST.matcher(String.join("\n", lines));
        while (test.find()) {
            told.add(test.group(1));
        }
        Set<String> there = new TreeSet<>();
        for (String file : new File("src/test/java").list()) {
            if (file.endsWith("Test.java")) {
                there.add(file.substring(0, file.length() - ".java".length()));
            }
        }
        same("tests", told, there);
    }

    private static void same(String what, Set<String> told, Set<String> there) {
        yes(what + " told: " + told + ", there: " + there, told.equals(there));
    }

    private static void yes(String what, boolean so) {
        Check.due(what, so ? 1 : 0, 1);
    }
}
