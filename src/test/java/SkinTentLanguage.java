import java.io.IOException;
import java.lang.reflect.Constructor;
import java.lang.reflect.Field;
import java.lang.reflect.Method;
import java.lang.reflect.Modifier;
import java.nio.charset.StandardCharsets;
import java.nio.file.Files;
import java.nio.file.Path;
import java.util.ArrayList;
import java.util.List;
import java.util.Set;
import java.util.TreeSet;
import java.util.regex.Matcher;
import java.util.regex.Pattern;

/** What of ../shared/LANGUAGE.md can be told from the source, and from the face of the classes. */
public final class SkinTentLanguage {
    private static final String FACE = "act best clear count cut ear fault feed fire fork fresh goBack gone hide keep layer "
        + "least live lived month night order peg piece plan pole rule run scrap seed stay storm tent told tripod weakest wet wind";
    private static int wrong = 0;

    public static void main(String[] args) throws IOException {
        Path program = Path.of(args.length > 0 ? args[0] : "src/main/java/SkinTent.java");
        String source = Files.readString(program, StandardCharsets.UTF_8);
        face();
        classes();
        words(withoutComments(source));
        methodLengths(source);
        System.out.println(wrong == 0 ? "the language is kept" : wrong + " faults of language");
        if (wrong != 0) {
            System.exit(1);
        }
    }

    private static void need(boolean holds, String what) {
        if (!holds) {
            wrong++;
            System.out.println(what);
        }
    }

    private static void face() {
        Set<String> open = new TreeSet<>();
        for (Method method : SkinTent.class.getDeclaredMethods()) {
            if (!Modifier.isPrivate(method.getModifiers())) {
                open.add(method.getName());
                need(Modifier.isPublic(method.getModifiers()), "1: not private, not public: " + method);
            }
        }
        need(String.join(" ", open).equals(FACE), "1: the face is " + open);
        int constants = 0;
        for (Field field : SkinTent.class.getDeclaredFields()) {
            constants += Modifier.isPublic(field.getModifiers()) ? 1 : 0;
            need(Modifier.isPublic(field.getModifiers()) || Modifier.isPrivate(field.getModifiers()), "1: open: " + field);
        }
        need(constants == 5, "1: public constants: " + constants);
        Constructor<?>[] constructors = SkinTent.class.getDeclaredConstructors();
        need(constructors.length == 1 && Modifier.isPublic(constructors[0].getModifiers()), "1: constructors");
        need(Modifier.isFinal(SkinTent.class.getModifiers()), "1: not final");
    }

    private static void classes() {
        List<Class<?>> all = new ArrayList<>(List.of(SkinTent.class.getDeclaredClasses()));
        for (Class<?> inner : all) {
            need(Modifier.isStatic(inner.getModifiers()), "2: not static: " + inner);
            need(Modifier.isPrivate(inner.getModifiers()), "1: not private: " + inner);
        }
        all.add(SkinTent.class);
        need(all.size() <= 12, "11: classes: " + all.size());
        Set<String> publics = Set.of(FACE.split(" "));
        for (Class<?> one : all) {
            int fields = 0;
            for (Field field : one.getDeclaredFields()) {
                boolean fixed = Modifier.isStatic(field.getModifiers());
                need(!fixed || Modifier.isFinal(field.getModifiers()), "5: not final: " + field);
                fields += fixed ? 0 : 1;
            }
            need(fields <= 20, "11: fields of " + one + ": " + fields);
            for (Method method : one.getDeclaredMethods()) {
                need(method.getParameterCount() <= 7, "11: parameters of " + method);
                need(one == SkinTent.class && Modifier.isPublic(method.getModifiers()) || !publics.contains(method.getName()),
                    "1: the name of a public method: " + method);
            }
        }
    }

    private static String withoutComments(String source) {
        return source.replaceAll("(?s)/\\*.*?\\*/", " ").replaceAll("//[^\n]*", " ");
    }

    private static void words(String code) {
        String[] banned = {"throw", "throws", "try", "catch", "synchronized", "assert", "import", "package", "->", "::",
            "var", "Exact", "System\\.(?!arraycopy)", "static\\s*\\{", "(?<!\\w)(?:double|float)(?!\\w)", "equals|hashCode|toString",
            "\"[^\"\n]*\"\\s*\\+", "\\+\\s*\""};
        for (String word : banned) {
            boolean isName = word.matches("\\w+");
            Matcher matcher = Pattern.compile(isName && !word.equals("Exact") ? "\\b" + word + "\\b" : word).matcher(code);
            need(!matcher.find(), "6: " + word);
        }
        for (char sign : code.toCharArray()) {
            need(sign < 128, "4: sign " + (int) sign);
        }
    }

    private static void methodLengths(String source) {
        String[] rows = source.split("\n");
        int begins = -1;
        String indent = "";
        for (int i = 0; i < rows.length; i++) {
            Matcher matcher = Pattern.compile("^(    |        )[a-zA-Z][^=;]*\\) \\{$").matcher(rows[i]);
            if (begins < 0 && matcher.find() && !rows[i].contains("class ")) {
                begins = i;
                indent = matcher.group(1);
            } else if (begins >= 0 && rows[i].equals(indent + "}")) {
                need(i - begins <= 60, "11: " + (i - begins) + " rows: " + rows[begins]);
                begins = -1;
            }
        }
        need(begins < 0, "the rows of methods can't be told");
    }
}
