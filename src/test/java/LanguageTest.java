import java.io.IOException;
import java.lang.reflect.Field;
import java.lang.reflect.Method;
import java.lang.reflect.Modifier;
import java.nio.charset.StandardCharsets;
import java.nio.file.Files;
import java.nio.file.Path;
import java.util.Arrays;
import java.util.List;
import java.util.Set;
import java.util.TreeSet;
import java.util.regex.Matcher;
import java.util.regex.Pattern;

/** The rules of LANGUAGE.md that can be seen from the program's text and its classes. */
public final class LanguageTest {
    private static final Path PROGRAMS = Path.of("src", "main", "java");
    private static final List<String> LIBRARY = List.of("String", "StringBuilder", "Integer", "Long", "Math", "System", "Arrays",
        "ArrayList", "List", "Iterator", "Iterable", "Comparable", "Override");
    private static final int MOST_CLASSES = 12;
    private static final int MOST_FIELDS = 20;
    private static final int MOST_PARAMETERS = 7;
    private static final int MOST_LINES = 60;
    private static final Checks CHECKS = new Checks();

    public static void main(String[] arguments) throws IOException {
        String program = Files.readString(PROGRAMS.resolve("GradeGraph.java"), StandardCharsets.ISO_8859_1);
        String code = bare(program);
        oneFile();
        signs(program);
        words(code);
        library(code);
        methodsAreShort(code);
        Class<?>[] inside = GradeGraph.class.getDeclaredClasses();
        CHECKS.holds("rule 11: some twelve classes", inside.length + 1 <= MOST_CLASSES);
        for (Class<?> own : inside) {
            CHECKS.holds("rule 2: static: " + own, Modifier.isStatic(own.getModifiers()));
            CHECKS.holds("rule 1: not public: " + own, !Modifier.isPublic(own.getModifiers()) && !Modifier.isProtected(own.getModifiers()));
            CHECKS.due("rule 2: no classes inside " + own, own.getDeclaredClasses().length, 0);
            fields(own, inside);
            methods(own);
        }
        fields(GradeGraph.class, inside);
        methods(GradeGraph.class);
        CHECKS.finish("LanguageTest");
    }

    /** The code without comments, and with what stands in quotes left out. */
    private static String bare(String program) {
        String quoted = program.replaceAll("\"([^\"\\\\\n]|\\\\.)*\"", "\"\"").replaceAll("'([^'\\\\\n]|\\\\.)'", "' '");
        return quoted.replaceAll("(?s)/\\*.*?\\*/", "").replaceAll("//[^\n]*", "");
    }

    private static void oneFile() throws IOException {
        try (var files = Files.list(PROGRAMS)) {
            CHECKS.due("the program is one file", files.count(), 1);
        }
    }

    private static void signs(String program) {
        CHECKS.holds("rule 4: signs from 1 to 127", program.chars().allMatch(sign -> 1 <= sign && sign <= 127));
    }

    private static void absent(int rule, String code, String pattern) {
        Matcher matcher = Pattern.compile(pattern).matcher(code);
        CHECKS.holds("rule " + rule + ": " + pattern + " is not used", !matcher.find());
    }

    private static void words(String code) {
        absent(1, code, "\\bpackage\\b");
        absent(2, code, "->");
        absent(2, code, "::");
        absent(4, code, "\\bimport\\b(?! java\\.util\\.(ArrayList|List|Arrays|Iterator);)");
        absent(4, code, "Exact\\b");
        for (String word : List.of("throw", "throws", "try", "catch", "finally", "synchronized", "assert", "volatile", "native")) {
            absent(6, code, "\\b" + word + "\\b");
        }
        absent(6, code, "\\b(equals|hashCode|toString) *\\([^)]*\\) *\\{");
        absent(10, code, "\"\" *\\+|\\+ *\"\"");
    }

    private static void library(String code) {
        Set<String> own = new TreeSet<>(LIBRARY);
        own.add("GradeGraph");
        Arrays.stream(GradeGraph.class.getDeclaredClasses()).forEach(inside -> own.add(inside.getSimpleName()));
        Matcher names = Pattern.compile("\\b[A-Z]\\w*[a-z]\\w*\\b").matcher(code);
        while (names.find()) {
            CHECKS.holds("rule 4: " + names.group() + " may be used", own.contains(names.group()));
        }
        absent(4, code, "\\bSystem\\.(?!arraycopy\\b)");
        absent(4, code, "\\bArrays\\.(?!(copyOf|copyOfRange|fill)\\b)");
    }

    private static void methodsAreShort(String code) {
        String[] lines = code.split("\n", -1);
        for (int start = 0; start < lines.length; start++) {
            String line = lines[start];
            if (!line.matches(" +[\\w\\[\\] ]*\\w+\\([^;]*\\{") || line.matches(" +(\\} )?(if|for|while|switch|else)\\b.*")) {
                continue;
            }
            String end = line.replaceAll("\\S.*", "") + "}";
            int last = start;
            while (last < lines.length && !lines[last].equals(end)) {
                last++;
            }
            CHECKS.holds("rule 11: lines of" + line, last - start < MOST_LINES);
        }
    }

    private static void fields(Class<?> own, Class<?>[] inside) {
        int state = 0;
        for (Field field : own.getDeclaredFields()) {
            Class<?> type = field.getType();
            Class<?> element = type.isArray() ? type.getComponentType() : type;
            boolean isOwn = Arrays.asList(inside).contains(element);
            boolean isPlain = element.isPrimitive() || element == String.class;
            if (Modifier.isStatic(field.getModifiers())) {
                CHECKS.holds("rule 5: final: " + field, Modifier.isFinal(field.getModifiers()));
                CHECKS.holds("rule 5: a constant: " + field, isPlain);
            } else {
                state++;
                boolean isRows = element.isArray() && element.getComponentType().isPrimitive();
                CHECKS.holds("rule 3: its type: " + field, isPlain || isOwn || isRows || type == StringBuilder.class
                    || type == java.util.ArrayList.class || type == List.class);
            }
        }
        CHECKS.holds("rule 11: some twenty fields: " + own, state <= MOST_FIELDS);
    }

    private static void methods(Class<?> own) {
        Set<String> face = new TreeSet<>();
        for (Method method : GradeGraph.class.getDeclaredMethods()) {
            if (Modifier.isPublic(method.getModifiers())) {
                face.add(method.getName());
            }
        }
        for (Method method : own.getDeclaredMethods()) {
            CHECKS.holds("rule 11: parameters: " + method, method.getParameterCount() <= MOST_PARAMETERS);
            boolean isHidden = Modifier.isPrivate(method.getModifiers());
            CHECKS.holds("rule 1: not a public one's name: " + method, !isHidden || !face.contains(method.getName()));
        }
    }
}
