import java.io.IOException;
import java.lang.reflect.Method;
import java.lang.reflect.Modifier;
import java.nio.charset.StandardCharsets;
import java.nio.file.Files;
import java.nio.file.Path;
import java.util.Set;
import java.util.TreeSet;
import java.util.regex.Matcher;
import java.util.regex.Pattern;
import java.util.stream.Stream;

/** What README.md says of the class and of its tests is so: every call of its examples answers what stands behind it. */
public final class SkinTentReadme {
    private static final Pattern MAKE = Pattern.compile("SkinTent tent = new SkinTent\\(\\);");
    private static final Pattern FEED = Pattern.compile("feed\\(tent, \"(.*)\"\\);");
    private static final Pattern CALL = Pattern.compile("tent\\.(\\w+)\\((.*)\\);\\s+// (-?\\d+)");
    private static final String[] ARGUMENTS = {"", "\\w+", "\\w+, \\w+", "\\w+, \\w+, \\w+", "\\w+, \\w+, \\w+, \\w+"};
    private static int wrong = 0;
    private static int calls = 0;
    private static SkinTent tent = new SkinTent();

    public static void main(String[] args) throws ReflectiveOperationException, IOException {
        Path readme = Path.of(args.length > 0 ? args[0] : "README.md");
        String text = Files.readString(readme, StandardCharsets.UTF_8);
        boolean inExample = false;
        for (String row : text.split("\n")) {
            if (row.startsWith("```")) {
                inExample = row.equals("```java");
            } else if (inExample) {
                example(row);
            }
        }
        need(calls > 0, "no example");
        names(text);
        tests(text, readme.toAbsolutePath().getParent());
        System.out.println(wrong == 0 ? calls + " calls of README.md answer so" : wrong + " things in README.md are not so");
        if (wrong != 0) {
            System.exit(1);
        }
    }

    private static void need(boolean holds, String what) {
        if (!holds) {
            wrong++;
            System.out.println(what);
        }
    }

    private static void example(String row) throws ReflectiveOperationException {
        Matcher call = CALL.matcher(row);
        Matcher fed = FEED.matcher(row);
        if (MAKE.matcher(row).matches()) {
            tent = new SkinTent();
        } else if (fed.matches()) {
            feed(tent, fed.group(1));
        } else if (call.matches()) {
            calls++;
            long answer = answerOf(call.group(1), call.group(2));
            need(answer == Long.parseLong(call.group(3)), row + " answers " + answer);
        } else {
            need(HELPER.contains(row), "not understood: " + row);
        }
    }

    // As README.md has it.
    private static void feed(SkinTent tent, String text) {
        for (int i = 0; i < text.length(); i++) {
            tent.feed(1, text.charAt(i));
        }
    }

    private static final Set<String> HELPER = Set.of(
        "static void feed(SkinTent tent, String text) {",
        "    for (int i = 0; i < text.length(); i++) {",
        "        tent.feed(1, text.charAt(i));",
        "    }",
        "}");

    private static long answerOf(String name, String told) throws ReflectiveOperationException {
        String[] words = told.isEmpty() ? new String[0] : told.split(", ");
        for (Method method : SkinTent.class.getMethods()) {
            Class<?>[] types = method.getParameterTypes();
            if (method.getName().equals(name) && types.length == words.length) {
                Object[] values = new Object[words.length];
                for (int i = 0; i < words.length; i++) {
                    values[i] = valueOf(types[i], words[i]);
                }
                return ((Number) method.invoke(tent, values)).longValue();
            }
        }
        throw new NoSuchMethodException(name + "(" + told + ")");
    }

    private static Object valueOf(Class<?> type, String word) {
        if (type == boolean.class) {
            return Boolean.valueOf(word);
        }
        if (type == long.class) {
            return Long.decode(word);
        }
        return Integer.valueOf(word.equals("SkinTent.NONE") ? SkinTent.NONE : Integer.decode(word));
    }

    /** Each method of the class is in the table of calls, with as many arguments as it has. */
    private static void names(String text) {
        for (Method method : SkinTent.class.getDeclaredMethods()) {
            String told = "`" + method.getName() + "\\(" + ARGUMENTS[method.getParameterCount()] + "\\)`";
            boolean isOfFace = Modifier.isPublic(method.getModifiers());
            need(!isOfFace || Pattern.compile("(?m)^\\| .*" + told + ".* \\| .* \\|$").matcher(text).find(), "not told: " + method);
        }
    }

    /** Each test of the project is told, and none that there is not. */
    private static void tests(String text, Path project) throws IOException {
        Set<String> told = new TreeSet<>();
        Matcher matcher = Pattern.compile("src/test/java/\\w+\\.java").matcher(text);
        while (matcher.find()) {
            told.add(matcher.group());
        }
        Set<String> there = new TreeSet<>();
        try (Stream<Path> files = Files.list(project.resolve("src/test/java"))) {
            files.forEach(file -> there.add("src/test/java/" + file.getFileName()));
        }
        need(told.equals(there), "tests told: " + told + ", tests there: " + there);
    }
}
