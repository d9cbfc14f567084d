import java.io.IOException;
import java.lang.reflect.Field;
import java.lang.reflect.Method;
import java.lang.reflect.Modifier;
import java.nio.charset.StandardCharsets;
import java.nio.file.Files;
import java.nio.file.Path;
import java.util.ArrayList;
import java.util.List;
import java.util.Set;
import java.util.TreeSet;
import java.util.regex.Matcher;
import java.util.regex.Pattern;

/** The rules of ../shared/LANGUAGE.md, by their numbers, as far as a test can see them. */
final class LanguageTests {
    private static final Set<Class<?>> CONSTANTS =
            Set.of(int.class, long.class, boolean.class, char.class, String.class);
    private static final Set<String> LIBRARY = Set.of("Math.max", "Math.min", "Math.abs", "System.arraycopy");
    private static final String[] NEVER = {"import", "package", "try", "catch", "finally", "synchronized", "assert",
        "volatile", "native", "transient", "strictfp", "protected"};

    private LanguageTests() {
    }

    static void run() {
        List<Class<?>> all = new ArrayList<>(List.of(ArmDuel.class));
        all.addAll(List.of(ArmDuel.class.getDeclaredClasses()));
        Check.due("11 some twelve classes", all.size() <= 12 ? 1 : 0, 1);
        for (Class<?> one : all) {
            fields(one, all);
            methods(one);
        }
        String source = source();
        texts(source);
        String code = withoutTexts(source);
        words(code);
        library(code, all);
        lengths(code);
    }

    private static void holds(String what, boolean is) {
        Check.due(what, is ? 1 : 0, 1);
    }

    private static void fields(Class<?> one, List<Class<?>> all) {
        int many = 0;
        for (Field field : one.getDeclaredFields()) {
            String name = one.getSimpleName() + "." + field.getName();
            Class<?> type = field.getType();
            if (Modifier.isStatic(field.getModifiers())) {
                holds("5 " + name + " is final", Modifier.isFinal(field.getModifiers()));
                holds("5 " + name + " is a constant", CONSTANTS.contains(type));
            } else {
                many++;
                Class<?> element = type.isArray() ? type.getComponentType() : type;
                boolean isRows = element.isArray() && element.getComponentType().isPrimitive();
                holds("3 the type of " + name, element.isPrimitive() || all.contains(element) || isRows);
            }
        }
        holds("11 the fields of " + one.getSimpleName(), many <= 20);
    }

    private static void methods(Class<?> one) {
        TreeSet<String> face = new TreeSet<>();
        for (Method method : ArmDuel.class.getDeclaredMethods()) {
            if (Modifier.isPublic(method.getModifiers())) {
                face.add(method.getName());
            }
        }
        for (Method method : one.getDeclaredMethods()) {
            String name = one.getSimpleName() + "." + method.getName();
            holds("11 the parameters of " + name, method.getParameterCount() <= 7);
            boolean isPublic = Modifier.isPublic(method.getModifiers());
            holds("1 no other method is called " + name, isPublic || !face.contains(method.getName()));
            holds("6 no equals, hashCode or toString, but " + name,
                    !Set.of("equals", "hashCode", "toString").contains(method.getName()));
        }
    }

    private static String source() {
        Path file = Path.of(System.getProperty("project", "."), "src", "main", "java", "ArmDuel.java");
        try {
            return Files.readString(file, StandardCharsets.ISO_8859_1);
        } catch (IOException e) {
            holds("the source " + file + " can be read", false);
            return "";
        }
    }

    private static void texts(String source) {
        boolean isPlain = true;
        for (int i = 0; i < source.length(); i++) {
            isPlain &= source.charAt(i) < 127;
        }
        holds("4 signs are 1 to 127", isPlain);
        holds("10 no joining by +", !Pattern.compile("\"\\s*\\+|\\+\\s*\"").matcher(source).find());
        Matcher matcher = Pattern.compile("\\bthrow\\b[^;]*;").matcher(source);
        Pattern plain = Pattern.compile("throw new (IllegalArgument|IndexOutOfBounds)Exception\\(\"[^\"]+\"\\);");
        while (matcher.find()) {
            holds("6 " + matcher.group(), plain.matcher(matcher.group()).matches());
        }
    }

    private static String withoutTexts(String source) {
        return source.replaceAll("(?s)/\\*.*?\\*/", "").replaceAll("//[^\n]*", "").replaceAll("\"[^\"\n]*\"", "\"\"");
    }

    private static void words(String code) {
        for (String word : NEVER) {
            holds("no " + word, !Pattern.compile("\\b" + word + "\\b").matcher(code).find());
        }
        holds("3 no lambda", !code.contains("->"));
        holds("3 no method reference", !code.contains("::"));
        holds("no annotation", !code.contains("@"));
    }

    /** What is written with a large first letter and a dot is the library's, or of the class itself. */
    private static void library(String code, List<Class<?>> all) {
        TreeSet<String> own = new TreeSet<>();
        for (Class<?> one : all) {
            own.add(one.getSimpleName());
        }
        Matcher matcher = Pattern.compile("\\b([A-Z]\\w*)\\.(\\w+)").matcher(code);
        while (matcher.find()) {
            boolean isOwn = own.contains(matcher.group(1)) || matcher.group(1).equals(matcher.group(1).toUpperCase());
            holds("4 " + matcher.group(), isOwn || LIBRARY.contains(matcher.group()));
        }
    }

    /** No method is longer than 60 lines. */
    private static void lengths(String code) {
        Pattern head = Pattern.compile("^( {4}| {8})\\w.*\\)[^;]*\\{$");
        int from = 0;
        String end = null;
        String[] lines = code.split("\n");
        for (int i = 0; i < lines.length; i++) {
            Matcher matcher = head.matcher(lines[i]);
            if (end == null && matcher.matches()) {
                from = i;
                end = matcher.group(1) + "}";
            } else if (end != null && lines[i].equals(end)) {
                holds("11 the method of line " + (from + 1) + " is short", i - from < 60);
                end = null;
            }
        }
    }
}
