import java.io.IOException;
import java.lang.reflect.Field;
import java.lang.reflect.Modifier;
import java.nio.file.Files;
import java.nio.file.Path;
import java.util.ArrayList;
import java.util.LinkedHashMap;
import java.util.List;
import java.util.Map;
import java.util.Set;
import java.util.regex.Matcher;
import java.util.regex.Pattern;

/**
 * Those rules of LANGUAGE.md that can be seen in the lines of the source. It holds the class to less than the rules
 * leave: no recursion, no while, no throw, no object made behind a constructor.
 */
public final class LanguageTest {
    private static final String[] FORBIDDEN = {
        "import ", "package ", "->", "::", "throw", "catch", "finally", "synchronized", "assert", "static \\{",
        "while", "\\bdo\\b", "float ", "double ", "Object", "toString", "equals", "hashCode", "instanceof",
        "\\b[A-Z]\\w+Exception", "Exact\\(", "\"", "@", "protected"
    };
    private static final Set<String> TYPES =
        Set.of("OrderedClauses", "Store", "History", "Text", "Integer", "Long", "Math", "System");
    private static final Set<String> LIBRARY =
        Set.of("Integer.bitCount", "Long.bitCount", "Math.max", "Math.min", "System.arraycopy");
    private static final Set<String> LOOK_AT_INDEX =
        Set.of("at", "put", "longAt", "putLong", "stateAt", "dropOldest", "History");
    private static final int DEEPEST = 8;

    private static final Due DUE = new Due();

    public static void main(String[] args) throws IOException {
        String text = Files.readString(Path.of("src/main/java/OrderedClauses.java"));
        DUE.holds("rule 4: signs 1 to 127 alone", text.chars().allMatch(c -> c >= 1 && c <= 127));
        String source = text.replaceAll("(?s)/\\*.*?\\*/", "").replaceAll("//[^\n]*", "");
        for (String forbidden : FORBIDDEN) {
            DUE.holds("rules 2 to 13: without " + forbidden, !Pattern.compile(forbidden).matcher(source).find());
        }
        names(source);
        fields();
        Map<String, String> methods = methods(source);
        indexesAndDivisors(methods);
        callsAreNotDeep(methods);
        loopsEnd(source);
        DUE.close("LanguageTest");
    }

    private static void names(String source) {
        for (String name : found("\\b[A-Z]\\w*[a-z]\\w*\\b", source)) {
            DUE.holds("rules 3 and 4: the type " + name, TYPES.contains(name));
        }
        for (String call : found("\\b(Integer|Long|Math|System)\\.\\w+", source)) {
            DUE.holds("rule 4: the library's " + call, LIBRARY.contains(call));
        }
    }

    private static void fields() {
        List<Class<?>> all = new ArrayList<>(List.of(OrderedClauses.class.getDeclaredClasses()));
        all.add(OrderedClauses.class);
        DUE.holds("rule 11: some twelve classes", all.size() <= 12);
        for (Class<?> one : all) {
            int fields = 0;
            for (Field f : one.getDeclaredFields()) {
                boolean isStatic = Modifier.isStatic(f.getModifiers());
                DUE.holds("rule 5: final is " + f, !isStatic || Modifier.isFinal(f.getModifiers()));
                fields += isStatic ? 0 : 1;
            }
            DUE.holds("rule 11: some twenty fields of " + one, fields <= 20);
        }
    }

    /** The bodies of all methods by their names, which are no two the same; a constructor has its class's name. */
    private static Map<String, String> methods(String source) {
        Map<String, String> bodies = new LinkedHashMap<>();
        Pattern method = Pattern.compile("(?m)^( +)(?:public|private) (?:[^=;{]* )?(\\w+)\\([^)]*\\) \\{\n((?s).*?)^\\1\\}");
        Matcher m = method.matcher(source);
        while (m.find()) {
            DUE.holds("no other method is named " + m.group(2), bodies.put(m.group(2), m.group(3)) == null);
            DUE.holds("rule 11: some sixty lines of " + m.group(2), m.group(3).split("\n").length <= 60);
        }
        int declared = found("(?m)^ +(public|private) .*\\{$", source).size() - found(" class ", source).size()
            - found("\\] \\w+ = \\{", source).size();
        DUE.same("methods that are read", bodies.size(), declared + 1);
        return bodies;
    }

    private static void indexesAndDivisors(Map<String, String> methods) {
        for (Map.Entry<String, String> method : methods.entrySet()) {
            String name = method.getKey();
            String body = method.getValue();
            boolean hasIndex = !found("\\w\\[[^\\]]", body).isEmpty();
            DUE.holds("rule 7: no index in " + name, !hasIndex || LOOK_AT_INDEX.contains(name));
            DUE.holds("rule 12: nothing is made by " + name, !body.contains("new ") || TYPES.contains(name));
            for (String line : body.split("\n")) {
                boolean divides = line.contains(" % ") || line.contains(" / ");
                DUE.holds("rule 7: a divisor is looked at in " + line, !divides || line.contains(" > 0 && "));
            }
        }
    }

    private static void callsAreNotDeep(Map<String, String> methods) {
        for (String name : methods.keySet()) {
            int depth = depth(name, methods, 1);
            DUE.holds("rules 8 and 11: " + depth + " calls deep, no recursion, in " + name, depth <= DEEPEST);
        }
    }

    /** How deep calls go from here; a recursion is deeper than all. */
    private static int depth(String name, Map<String, String> methods, int open) {
        int deepest = 1;
        for (String call : found("\\b\\w+(?=\\()", methods.get(name))) {
            if (methods.containsKey(call) && open <= 2 * DEEPEST) {
                deepest = Math.max(deepest, 1 + depth(call, methods, open + 1));
            }
        }
        return deepest;
    }

    private static void loopsEnd(String source) {
        Pattern counted = Pattern.compile("for \\(int (\\w+) = [^;]+; \\1 (<|<=|>|>=) [^;]+; \\1(\\+\\+|--)\\) \\{");
        for (String line : found("\\bfor \\(.*", source)) {
            DUE.holds("rule 9: a counter against a bound in " + line, counted.matcher(line).matches());
        }
    }

    private static List<String> found(String pattern, String text) {
        List<String> all = new ArrayList<>();
        Matcher m = Pattern.compile(pattern).matcher(text);
        while (m.find()) {
            all.add(m.group());
        }
        return all;
    }
}
