import java.io.IOException;
import java.nio.file.Files;
import java.nio.file.Path;
import java.util.ArrayList;
import java.util.LinkedHashMap;
import java.util.List;
import java.util.Map;
import java.util.Set;
import java.util.TreeSet;
import java.util.regex.Matcher;
import java.util.regex.Pattern;

/** The rules of LANGUAGE.md that the text of the class shows. */
final class LanguageTest {
    private static final Path SOURCE = Path.of("src/main/java/MixedCritKernel.java");
    private static final Pattern METHOD = Pattern.compile(
        "(?m)^    (public|private) (?:static )?(?:[a-z]+ )?(\\w+)\\(([^)]*)\\) \\{\\n((?:.*\\n)*?)    \\}\\n");
    private static final Pattern CALL = Pattern.compile("\\b([a-z]\\w*)\\(");
    private static final String[] WORDS = {
        "import", "package", "interface", "enum", "record", "float", "double", "String", "Math", "Integer", "Long",
        "System", "Arrays", "Object", "null", "throw", "throws", "try", "catch", "finally", "synchronized", "assert",
        "instanceof", "protected", "super", "var", "native", "volatile", "transient", "extends", "implements"};

    public static void main(String[] args) throws IOException {
        String code = Files.readString(SOURCE).replaceAll("(?s)/\\*.*?\\*/", "").replaceAll("//.*", "");
        forbiddenWords(code);
        arraysAndFields(code);
        methods(code);
        Checks.finish();
    }

    private static void forbiddenWords(String code) {
        for (String word : WORDS) {
            Checks.due("word " + word, Pattern.compile("\\b" + word + "\\b").matcher(code).find(), false);
        }
        String[] signs = {"->", "::", "\"", "@", "static {", "[][]"};
        for (String sign : signs) {
            Checks.due("sign " + sign, code.contains(sign), false);
        }
        Checks.due("classes", count("\\bclass\\b", code), 1);
    }

    private static void arraysAndFields(String code) {
        String field = "(?m)^    private final \\w+\\[\\] \\w+ = new \\w+\\[[A-Z_]+\\];$";
        Checks.due("every new is a field's initialiser", count("\\bnew\\b", code), count(field, code));
        String constant = "(?m)^    (public|private) static final (int|long) [A-Z_]+ = -?\\d+;$";
        Checks.due("static fields are constants", count("(?m)^    \\w+ static [^(\\n]*$", code), count(constant, code));
        Checks.due("at most forty fields", count("(?m)^    private (?!static)[^(\\n]*;$", code) <= 40, true);
    }

    private static void methods(String code) {
        Map<String, String> bodies = new LinkedHashMap<>();
        Matcher method = METHOD.matcher(code);
        while (method.find()) {
            String name = method.group(2);
            Checks.due("one method of the name " + name, bodies.containsKey(name), false);
            Checks.due("parameters of " + name, method.group(3).split(",").length <= 7, true);
            Checks.due("lines of " + name, method.group(4).split("\n").length <= 60, true);
            bodies.put(name, method.group(4));
        }
        Checks.due("every method was read", bodies.size(), count("(?m)^    (public|private)[^=;\\n]*\\{$", code));
        for (Map.Entry<String, String> entry : bodies.entrySet()) {
            Checks.due("a call in a call's arguments in " + entry.getKey(),
                count("\\b(?!if\\b|for\\b|while\\b|switch\\b)[a-z]\\w*\\([^()]*\\b[a-z]\\w*\\(", entry.getValue()), 0);
        }
        for (String name : bodies.keySet()) {
            Checks.due("depth from " + name + " is at most six", depth(name, bodies, new ArrayList<>()) <= 6, true);
        }
    }

    /** A call that comes back to a method on the way counts as endlessly deep. */
    private static int depth(String name, Map<String, String> bodies, List<String> way) {
        if (way.contains(name)) {
            return 1000;
        }
        way.add(name);
        int deepest = 0;
        Set<String> called = new TreeSet<>();
        Matcher call = CALL.matcher(bodies.get(name));
        while (call.find()) {
            called.add(call.group(1));
        }
        called.retainAll(bodies.keySet());
        for (String next : called) {
            deepest = Math.max(deepest, depth(next, bodies, way));
        }
        way.remove(name);
        return deepest + 1;
    }

    private static int count(String pattern, String text) {
        Matcher matcher = Pattern.compile(pattern).matcher(text);
        int found = 0;
        while (matcher.find()) {
            found++;
        }
        return found;
    }
}
