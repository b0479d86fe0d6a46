import java.io.IOException;
import java.lang.reflect.Field;
import java.lang.reflect.Method;
import java.lang.reflect.Modifier;
import java.nio.file.Files;
import java.nio.file.Path;
import java.util.HashSet;
import java.util.LinkedHashMap;
import java.util.List;
import java.util.Map;
import java.util.Set;
import java.util.regex.Matcher;
import java.util.regex.Pattern;

/** The rules of ../shared/LANGUAGE.md that a look at the source or at the classes can check. */
public final class LanguageTests {
    private static final Path SOURCE = Path.of("src/main/java/SensorHub.java");
    private static final int LONGEST_METHOD = 60;
    private static final int MOST_PARAMETERS = 7;
    private static final int MOST_CLASSES = 12;
    private static final int MOST_FIELDS = 20;
    private static final int DEEPEST_CALL = 8;

    public static void main(String[] args) throws IOException {
        Check check = new Check("LanguageTests");
        String source = Files.readString(SOURCE);
        String code = source.replaceAll("(?s)/\\*.*?\\*/", "").replaceAll("//[^\n]*", "")
                .replaceAll("'[^'\\\\]'", "0").replaceAll("\"[^\"\n]*\"", "TEXT");
        words(check, code);
        library(check, code);
        sizes(check, code);
        bodies(check, code);
        classes(check);
        check.finish();
    }

    private static void words(Check check, String code) {
        check.test("rules 2, 4 and 6: words that are not allowed");
        String[] banned = {"\\bthrow\\b", "\\bthrows\\b", "\\btry\\b", "\\bcatch\\b", "\\bfinally\\b",
            "\\bsynchronized\\b", "\\bassert\\b", "\\bimport\\b", "\\bpackage\\b", "\\bstatic\\s*\\{", "->", "::",
            "\\bhashCode\\b", "\\btoString\\b", "Exact\\b", "TEXT\\s*\\+", "\\+\\s*TEXT"};
        for (String word : banned) {
            check.isTrue("no " + word, !Pattern.compile(word).matcher(code).find());
        }
        check.isTrue("signs 1 to 127", code.chars().allMatch(sign -> sign > 0 && sign < 128));
    }

    private static void library(Check check, String code) {
        check.test("rule 4: the library");
        Set<String> allowed = Set.of("Math.floorMod", "Math.floorDiv", "Math.min", "Math.max", "System.arraycopy");
        Matcher call = Pattern.compile("\\b[A-Z][a-z]+\\.[a-z]\\w*(?=\\()").matcher(code);
        while (call.find()) {
            check.isTrue(call.group() + " is allowed", allowed.contains(call.group()));
        }
    }

    private static void sizes(Check check, String code) {
        check.test("rule 11: short methods");
        String[] lines = code.split("\n");
        int first = 0;
        for (int i = 0; i < lines.length; i++) {
            if (lines[i].matches(" {4}( {4})?[^ ].*\\{") && !lines[i].contains(" class ")) {
                first = i;
            }
            if (lines[i].matches(" {4}( {4})?\\}")) {
                check.isTrue("short method before line " + lines[i], i - first < LONGEST_METHOD);
            }
        }
    }

    private static void bodies(Check check, String code) {
        check.test("rules 8, 11 and 12: no recursion, no deep calls, objects made by constructors alone");
        Map<String, String> bodies = methodBodies(code);
        check.isTrue("the methods are found", bodies.keySet().containsAll(
                Set.of("SensorHub.advance", "Hub.wake", "Sensor.accept", "Text.isWord", "History.History")));
        for (String method : bodies.keySet()) {
            check.isTrue(method + " calls at most " + DEEPEST_CALL + " deep", depth(bodies, method, 1) <= DEEPEST_CALL);
            String name = method.substring(method.indexOf('.') + 1);
            check.isTrue(method + " makes no object", Character.isUpperCase(name.charAt(0))
                    || !bodies.get(method).contains("new "));
        }
    }

    /** The bodies by "Class.method"; the source is indented by four spaces a level. */
    private static Map<String, String> methodBodies(String code) {
        Map<String, String> bodies = new LinkedHashMap<>();
        String inside = "SensorHub";
        String method = "";
        String end = "";
        for (String line : code.split("\n")) {
            Matcher head = Pattern.compile("^( {4}(?: {4})?)(?:\\w+ )*(\\w+)\\(.*\\{$").matcher(line);
            if (line.matches("^ {4}private static final class .*")) {
                inside = line.trim().split(" ")[4];
            } else if (head.find()) {
                method = inside + "." + head.group(2);
                end = head.group(1) + "}";
                bodies.put(method, "");
            } else if (line.equals(end)) {
                method = "";
            } else if (bodies.containsKey(method)) {
                bodies.put(method, bodies.get(method) + line + "\n");
            }
        }
        return bodies;
    }

    /** How many calls stand open at once in this method, its own and those of the library included. */
    private static int depth(Map<String, String> bodies, String method, int open) {
        int deepest = open;
        if (open > DEEPEST_CALL) {
            return deepest;
        }
        Matcher call = Pattern.compile("(\\w+\\.)?\\b(\\w+)\\(").matcher(bodies.get(method));
        while (call.find()) {
            if (!Set.of("if", "for", "while", "switch").contains(call.group(2))) {
                deepest = Math.max(deepest, open + 1);
                for (String called : calledBy(bodies, method, call.group(1) != null, call.group(2))) {
                    deepest = Math.max(deepest, depth(bodies, called, open + 1));
                }
            }
        }
        return deepest;
    }

    /** A name with a receiver is taken as that of each other class, one without as that of its own or the outer one. */
    private static List<String> calledBy(Map<String, String> bodies, String method, boolean hasReceiver, String name) {
        String own = method.substring(0, method.indexOf('.') + 1);
        if (!hasReceiver && bodies.containsKey(own + name)) {
            return List.of(own + name);
        }
        return bodies.keySet().stream().filter(other -> other.endsWith("." + name)
                && (hasReceiver ? !other.startsWith(own) : other.startsWith("SensorHub."))).toList();
    }

    private static void classes(Check check) {
        check.test("rules 1, 5 and 11: members");
        Set<String> publicNames = new HashSet<>();
        for (Method method : SensorHub.class.getMethods()) {
            publicNames.add(method.getName());
        }
        Class<?>[] inside = SensorHub.class.getDeclaredClasses();
        check.isTrue("few classes", inside.length + 1 <= MOST_CLASSES);
        members(check, SensorHub.class, Set.of());
        for (Class<?> one : inside) {
            members(check, one, publicNames);
        }
    }

    private static void members(Check check, Class<?> one, Set<String> publicNames) {
        int fields = 0;
        for (Field field : one.getDeclaredFields()) {
            boolean isStatic = Modifier.isStatic(field.getModifiers());
            check.isTrue(field + " is final if static", !isStatic || Modifier.isFinal(field.getModifiers()));
            fields += isStatic ? 0 : 1;
        }
        check.isTrue("few fields in " + one, fields <= MOST_FIELDS);
        for (Method method : one.getDeclaredMethods()) {
            check.isTrue("few parameters of " + method, method.getParameterCount() <= MOST_PARAMETERS);
            check.isTrue(method + " has a name of its own", !publicNames.contains(method.getName()));
        }
    }
}
