import java.io.File;
import java.io.IOException;
import java.lang.reflect.Method;
import java.lang.reflect.Modifier;
import java.nio.file.Files;
import java.nio.file.Path;
import java.util.Arrays;
import java.util.TreeSet;
import java.util.regex.Matcher;
import java.util.regex.Pattern;

/** README.md: each call that it shows answers what it says beside it; it tells how to use and to test the class. */
public final class ReadmeTest {
    private static final Check CHECK = new Check("ReadmeTest");
    private static final int MOST_CALLS = 512;
    private static final Pattern BLOCK = Pattern.compile("(?ms)^```java\n(.*?)^```$");
    private static final Pattern OBJECT = Pattern.compile("FieldMixtures x = new FieldMixtures\\(\\);( +// .*)?");
    /** A number or the name of a constant, and perhaps an explanation behind a colon. */
    private static final Pattern CALL = Pattern.compile("x\\.(\\w+)\\((.*)\\); +// (-?\\d+|[A-Z_]+)(: .*)?");
    private static final Pattern ARGUMENT = Pattern.compile("-?\\d+|'[ -~]'");

    private final TreeSet<String> shown = new TreeSet<>();
    private FieldMixtures x;
    private int calls;

    public static void main(String[] args) throws Exception {
        String readme = Files.readString(Path.of("README.md"));
        new ReadmeTest().examples(readme);
        words(readme.replaceAll("\\s+", " "));
        testsAreNamed(readme);
        CHECK.close();
    }

    private void examples(String readme) throws ReflectiveOperationException {
        Matcher block = BLOCK.matcher(readme);
        int blocks = 0;
        while (block.find()) {
            blocks++;
            x = null;
            for (String line : block.group(1).split("\n")) {
                look(line);
            }
        }
        CHECK.holds("there are examples", blocks > 0);
        CHECK.holds("each block of signs is an example", readme.split("```", -1).length == 2 * blocks + 1);
        CHECK.holds("each public method is shown, but not " + missing(), missing().isEmpty());
    }

    private TreeSet<String> missing() {
        TreeSet<String> missing = new TreeSet<>();
        for (Method method : FieldMixtures.class.getDeclaredMethods()) {
            if (Modifier.isPublic(method.getModifiers())) {
                missing.add(method.getName());
            }
        }
        missing.removeAll(shown);
        return missing;
    }

    private void look(String line) throws ReflectiveOperationException {
        Matcher call = CALL.matcher(line);
        if (OBJECT.matcher(line).matches()) {
            x = new FieldMixtures();
            calls = 0;
        } else if (call.matches() && x != null) {
            calls++;
            CHECK.holds(line + ": an object is used for at most 512 calls", calls <= MOST_CALLS);
            CHECK.due(line, answer(call.group(1), arguments(line, call.group(2))), number(call.group(3)));
            shown.add(call.group(1));
        } else {
            CHECK.holds("'" + line + "' is a call with its answer", line.isBlank());
        }
    }

    private int answer(String name, Object[] arguments) throws ReflectiveOperationException {
        Class<?>[] kinds = new Class<?>[arguments.length];
        Arrays.fill(kinds, int.class);
        return (int) FieldMixtures.class.getMethod(name, kinds).invoke(x, arguments);
    }

    private static Object[] arguments(String line, String told) {
        if (told.isEmpty()) {
            return new Object[0];
        }
        String[] words = told.equals("','") ? new String[] {told} : told.split(", ", -1);
        Object[] arguments = new Object[words.length];
        for (int index = 0; index < words.length; index++) {
            boolean known = ARGUMENT.matcher(words[index]).matches();
            CHECK.holds(line + ": the argument " + words[index], known);
            boolean sign = known && words[index].charAt(0) == '\'';
            arguments[index] = sign ? (int) words[index].charAt(1) : known ? Integer.parseInt(words[index]) : 0;
        }
        return arguments;
    }

    private static int number(String told) throws ReflectiveOperationException {
        boolean named = Character.isUpperCase(told.charAt(0));
        return named ? FieldMixtures.class.getField(told).getInt(null) : Integer.parseInt(told);
    }

    private static void words(String readme) {
        CHECK.holds("how an object is made", readme.contains("new FieldMixtures()"));
        CHECK.holds("how long it is used", readme.contains("An object is used for at most 512 calls after it has been"
                + " made; what later calls answer is free."));
        CHECK.holds("how its tests are run", readme.contains(".ci/run"));
        for (String constant : new String[] {"INVALID_ARGUMENT", "NOT_POSSIBLE", "LIMIT_REACHED", "NOT_FOUND"}) {
            CHECK.holds("the error " + constant, readme.contains("`" + constant + "`"));
        }
    }

    private static void testsAreNamed(String readme) throws IOException {
        String[] files = new File("src/test/java").list((folder, name) -> name.endsWith("Test.java"));
        CHECK.holds("there are tests", files != null && files.length > 0);
        for (String file : files == null ? new String[0] : files) {
            String name = file.substring(0, file.length() - ".java".length());
            CHECK.holds("the test " + name, readme.contains("- `" + name + "`: "));
        }
    }
}
