import java.io.IOException;
import java.lang.reflect.Constructor;
import java.lang.reflect.Field;
import java.lang.reflect.Method;
import java.lang.reflect.Modifier;
import java.nio.file.Files;
import java.nio.file.Path;
import java.util.ArrayList;
import java.util.List;
import java.util.TreeSet;
import java.util.regex.Matcher;
import java.util.regex.Pattern;

/** The public face, and what of LANGUAGE.md can be told by looking at the class and its source. */
public final class FaceTest {
    private static final Check CHECK = new Check("FaceTest");
    private static final List<String> FACE = List.of("fields 1", "value 2", "resources 2", "bound 3", "tie 1",
            "allocations 2", "gains 2", "better 2", "put 3", "take 2", "round 1", "mixtureOf 3", "marginal 3",
            "mean 3", "expected 1", "reply 2", "could 2", "count 1", "undo 0", "type 1", "clearText 0", "fault 1",
            "read 0");
    private static final List<String> HEADINGS = List.of("// ---- the contest", "public int fields(",
            "public int value(", "public int resources(", "public int bound(", "public int tie(",
            "// ---- allocations", "public int allocations(", "public int gains(", "public int better(",
            "// ---- mixtures", "public int put(", "public int take(", "public int round(",
            "public int mixtureOf(", "public int marginal(", "public int mean(", "// ---- gains",
            "public int expected(", "public int reply(", "public int could(", "public int count(",
            "public int undo(", "// ---- texts", "public int type(", "public int clearText(", "public int fault(",
            "public int read(");

    public static void main(String[] args) throws IOException {
        constants();
        methods();
        fieldsAndConstructors();
        classesInside();
        String source = Files.readString(Path.of("src/main/java/FieldMixtures.java"));
        headings(source);
        language(source);
        CHECK.close();
    }

    private static void constants() {
        CHECK.due("INVALID_ARGUMENT", FieldMixtures.INVALID_ARGUMENT, -1000001);
        CHECK.due("NOT_POSSIBLE", FieldMixtures.NOT_POSSIBLE, -1000002);
        CHECK.due("LIMIT_REACHED", FieldMixtures.LIMIT_REACHED, -1000003);
        CHECK.due("NOT_FOUND", FieldMixtures.NOT_FOUND, -1000004);
    }

    private static void methods() {
        TreeSet<String> seen = new TreeSet<>();
        TreeSet<String> names = new TreeSet<>();
        for (String entry : FACE) {
            names.add(entry.split(" ")[0]);
        }
        for (Method method : FieldMixtures.class.getDeclaredMethods()) {
            boolean isPublic = Modifier.isPublic(method.getModifiers());
            if (isPublic) {
                seen.add(method.getName() + " " + method.getParameterCount());
                CHECK.holds(method + " answers int and is of the object",
                        method.getReturnType() == int.class && !Modifier.isStatic(method.getModifiers()));
            } else {
                CHECK.holds(method + " is private", Modifier.isPrivate(method.getModifiers()));
                CHECK.holds(method + " has no public one's name", !names.contains(method.getName()));
            }
            CHECK.holds(method + " has seven parameters at most", method.getParameterCount() <= 7);
        }
        CHECK.holds("the public methods are those of the document: " + seen, seen.equals(new TreeSet<>(FACE)));
    }

    private static void fieldsAndConstructors() {
        CHECK.holds("public and final", Modifier.isPublic(FieldMixtures.class.getModifiers())
                && Modifier.isFinal(FieldMixtures.class.getModifiers()));
        List<String> open = new ArrayList<>();
        for (Field field : FieldMixtures.class.getDeclaredFields()) {
            if (!Modifier.isPrivate(field.getModifiers())) {
                open.add(field.getName());
            }
            CHECK.holds(field + " is final if static",
                    !Modifier.isStatic(field.getModifiers()) || Modifier.isFinal(field.getModifiers()));
        }
        CHECK.holds("the constants are all that is open: " + open, open.equals(
                List.of("INVALID_ARGUMENT", "NOT_POSSIBLE", "LIMIT_REACHED", "NOT_FOUND")));
        Constructor<?>[] constructors = FieldMixtures.class.getDeclaredConstructors();
        CHECK.holds("one public constructor without parameters", constructors.length == 1
                && Modifier.isPublic(constructors[0].getModifiers()) && constructors[0].getParameterCount() == 0);
    }

    private static void classesInside() {
        Class<?>[] inside = FieldMixtures.class.getDeclaredClasses();
        CHECK.holds("twelve classes at most", inside.length < 12);
        TreeSet<String> names = new TreeSet<>();
        for (String entry : FACE) {
            names.add(entry.split(" ")[0]);
        }
        for (Class<?> one : inside) {
            CHECK.holds(one + " is static and private",
                    Modifier.isStatic(one.getModifiers()) && Modifier.isPrivate(one.getModifiers()));
            CHECK.holds(one + " has twenty fields at most", one.getDeclaredFields().length <= 20);
            for (Method method : one.getDeclaredMethods()) {
                CHECK.holds(method + " has no public one's name", !names.contains(method.getName()));
            }
        }
    }

    private static void headings(String source) {
        int place = 0;
        for (String heading : HEADINGS) {
            int next = source.indexOf(heading, place);
            CHECK.holds(heading + " stands in its order", next >= 0);
            place = Math.max(next, place);
        }
    }

    private static void language(String source) {
        String code = source.replaceAll("(?s)/\\*.*?\\*/", "").replaceAll("//[^\n]*", "");
        for (String word : List.of("package", "import", "throw", "throws", "try", "catch", "finally", "synchronized",
                "assert", "instanceof", "var", "protected", "native", "volatile", "transient", "null", "this::",
                "long", "double", "float", "String", "System", "Thread", "Object", "equals", "hashCode")) {
            CHECK.holds("no '" + word + "'", !Pattern.compile("\\b" + word + "\\b").matcher(code).find());
        }
        CHECK.holds("no lambda, no method reference", !code.contains("->") && !code.contains("::"));
        for (int index = 0; index < source.length(); index++) {
            char sign = source.charAt(index);
            if (sign > 126 || sign < 32 && sign != '\n') {
                CHECK.holds("sign " + (int) sign + " at " + index, false);
            }
        }
        onlyConstructorsMake(code);
        shortMethods(code);
    }

    /** A run has one room for all that it makes: calls make nothing. */
    private static void onlyConstructorsMake(String code) {
        Matcher head = Pattern.compile("(?m)^ {4}(?: {4})?(?:public|private) [^=;]*\\{\n").matcher(code);
        while (head.find()) {
            boolean makes = bodyFrom(code, head.end()).contains("new ");
            boolean constructor = head.group().trim().matches("(public|private) [A-Z]\\w*\\(\\) \\{");
            boolean ofClass = head.group().contains(" class ");
            CHECK.holds("makes nothing: " + head.group().trim(), !makes || constructor || ofClass);
        }
    }

    private static void shortMethods(String code) {
        Matcher head = Pattern.compile("(?m)^ {4}(?: {4})?(?:public|private) [^=;]*\\) \\{\n").matcher(code);
        int methods = 0;
        while (head.find()) {
            methods++;
            CHECK.holds("sixty lines at most: " + head.group().trim(),
                    bodyFrom(code, head.end()).split("\n").length <= 60);
        }
        CHECK.holds("methods were found", methods > FACE.size());
    }

    private static String bodyFrom(String code, int start) {
        int depth = 1;
        int end = start;
        while (depth > 0 && end < code.length()) {
            char sign = code.charAt(end);
            depth += sign == '{' ? 1 : sign == '}' ? -1 : 0;
            end++;
        }
        return code.substring(start, end);
    }
}
