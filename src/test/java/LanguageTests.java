import java.io.IOException;
import java.lang.reflect.Field;
import java.lang.reflect.Method;
import java.lang.reflect.Modifier;
import java.nio.file.Files;
import java.nio.file.Path;
import java.util.HashSet;
import java.util.Set;
import java.util.regex.Matcher;
import java.util.regex.Pattern;

/** The rules of ../shared/LANGUAGE.md that a look at the source or at the classes can check. */
public final class LanguageTests {
    private static final Path SOURCE = Path.of("src/main/java/SensorHub.java");
    private static final int LONGEST_METHOD = 60;
    private static final int MOST_PARAMETERS = 7;
    private static final int MOST_CLASSES = 12;
    private static final int MOST_FIELDS = 20;

    public static void main(String[] args) throws IOException {
        Check check = new Check("LanguageTests");
        String source = Files.readString(SOURCE);
        String code = source.replaceAll("(?s)/\\*.*?\\*/", "").replaceAll("//[^\n]*", "")
                .replaceAll("'[^'\\\\]'", "0").replaceAll("\"[^\"\n]*\"", "TEXT");
        words(check, code);
        library(check, code);
        sizes(check, code);
        classes(check);
        check.finish();
    }

    private static void words(Check check, String code) {
        check.test("rules 2, 4 and 6: words that are not allowed");
        String[] banned = {"\\bthrow\\b", "\\bthrows\\b", "\\btry\\b", "\\bcatch\\b", "\\bfinally\\b",
            "\\bsynchronized\\b", "\\bassert\\b", "\\bimport\\b", "\\bpackage\\b", "\\bstatic\\s*\\{", "->", "::",
            "\\bhashCode\\b", "\\btoString\\b", "Exact\\b", "TEXT\\s*\\+", "\\+\\s*TEXT"};
        for (String word : banned) {
            check.isTrue("no " + word, !Pattern.compile(word).matcher(code).find());
        }
        check.isTrue("signs 1 to 127", code.chars().allMatch(sign -> sign > 0 && sign < 128));
    }

    private static void library(Check check, String code) {
        check.test("rule 4: the library");
        Set<String> allowed = Set.of("Math.floorMod", "Math.floorDiv", "Math.min", "Math.max", "System.arraycopy");
        Matcher call = Pattern.compile("\\b[A-Z][a-z]+\\.[a-z]\\w*(?=\\()").matcher(code);
        while (call.find()) {
            check.isTrue(call.group() + " is allowed", allowed.contains(call.group()));
        }
    }

    private static void sizes(Check check, String code) {
        check.test("rule 11: short methods");
        String[] lines = code.split("\n");
        int first = 0;
        for (int i = 0; i < lines.length; i++) {
            if (lines[i].matches(" {4}( {4})?[^ ].*\\{") && !lines[i].contains(" class ")) {
                first = i;
            }
            if (lines[i].matches(" {4}( {4})?\\}")) {
                check.isTrue("short method before line " + lines[i], i - first < LONGEST_METHOD || lines[i].length() == 5);
            }
        }
    }

    private static void classes(Check check) {
        check.test("rules 1, 5 and 11: members");
        Set<String> publicNames = new HashSet<>();
        for (Method method : SensorHub.class.getMethods()) {
            publicNames.add(method.getName());
        }
        Class<?>[] inside = SensorHub.class.getDeclaredClasses();
        check.isTrue("few classes", inside.length + 1 <= MOST_CLASSES);
        members(check, SensorHub.class, Set.of());
        for (Class<?> one : inside) {
            members(check, one, publicNames);
        }
    }

    private static void members(Check check, Class<?> one, Set<String> publicNames) {
        int fields = 0;
        for (Field field : one.getDeclaredFields()) {
            boolean isStatic = Modifier.isStatic(field.getModifiers());
            check.isTrue(field + " is final if static", !isStatic || Modifier.isFinal(field.getModifiers()));
            fields += isStatic ? 0 : 1;
        }
        check.isTrue("few fields in " + one, fields <= MOST_FIELDS);
        for (Method method : one.getDeclaredMethods()) {
            check.isTrue("few parameters of " + method, method.getParameterCount() <= MOST_PARAMETERS);
            check.isTrue(method + " has a name of its own", !publicNames.contains(method.getName()));
        }
    }
}
