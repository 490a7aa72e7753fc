import com.sun.source.tree.BinaryTree;
import com.sun.source.tree.ExpressionTree;
import com.sun.source.tree.IdentifierTree;
import com.sun.source.tree.LiteralTree;
import com.sun.source.tree.MethodInvocationTree;
import com.sun.source.tree.VariableTree;
import java.io.IOException;
import java.nio.file.Files;
import java.nio.file.Path;
import java.util.ArrayList;
import java.util.LinkedHashMap;
import java.util.LinkedHashSet;
import java.util.List;
import java.util.Map;
import java.util.Set;
import java.util.regex.Pattern;
import java.util.stream.Stream;

/** Every sentence of the document, but for what is not promised, is quoted by a test of its part, word for word. */
final class DocumentTest {
    private static final Path DOCUMENT = Path.of("../shared/DOC.md");
    private static final Path TESTS = Path.of("src/test/java");
    private static final String[][] PARTS = {
        {"What it is", "TermsTest", "FaceTest"},
        {"The public face", "FaceTest"},
        {"Terms used below", "TermsTest", "AdmissionRulesTest", "TickTest"},
        {"Promise 1: A fresh kernel", "FreshKernelTest"},
        {"Promise 2: Adding a task", "AddTaskTest"},
        {"Promise 3: Setting the demand", "SetExecTest"},
        {"Promise 4: Counting tasks", "TaskCountTest"},
        {"Promise 5: Utilisation numerators", "UtilNumTest"},
        {"Promise 6: Admission", "AdmitTest"},
        {"Promise 7: Running ticks", "RunTest"},
        {"Promise 8: Time and mode", "TimeModeTest"},
        {"Promise 9: The factor x", "FactorTest"},
        {"Promise 10: The last job run", "LastRanTest"},
        {"Promise 11: Progress of a pending job", "JobDoneTest"},
        {"Promise 12: Priority key of a pending job", "JobDeadlineTest"},
        {"Promise 13: Per-task counters", "CounterTest"},
        {"Promise 14: System counters", "StatTest"}};
    /** Headings within a part, and words that only join what is quoted. */
    private static final Pattern BETWEEN = Pattern.compile("\\*\\*[^*]*\\*\\*|```java|\\b(and|or|then)\\b|\\W");

    public static void main(String[] args) throws IOException {
        if (!Files.isReadable(DOCUMENT)) {
            System.out.println("NOTHING HELD: " + DOCUMENT + " is not here to compare the quotes with");
            return;
        }
        String document = Files.readString(DOCUMENT);
        everySentenceIsQuoted(document);
        everyQuoteStandsThere(plain(document));
        Checks.finish();
    }

    private static void everySentenceIsQuoted(String document) throws IOException {
        Map<String, String> parts = parts(document);
        for (String[] part : PARTS) {
            String text = parts.getOrDefault(part[0], "This part is not in the document.");
            boolean[] quoted = new boolean[text.length()];
            for (int test = 1; test < part.length; test++) {
                for (String quote : quotes(part[test])) {
                    mark(quoted, text, quote);
                }
            }
            Checks.same("not quoted of " + part[0], rest(text, quoted), "");
        }
    }

    private static void everyQuoteStandsThere(String document) throws IOException {
        for (String test : tests()) {
            for (String quote : quotes(test)) {
                Checks.same(test, document.contains(quote) ? "" : "not in the document: " + quote, "");
            }
        }
    }

    private static List<String> tests() throws IOException {
        try (Stream<Path> files = Files.list(TESTS)) {
            return files.map(file -> file.getFileName().toString()).filter(name -> name.endsWith("Test.java"))
                .map(name -> name.replace(".java", "")).sorted().toList();
        }
    }

    /** The text below each heading. */
    private static Map<String, String> parts(String document) {
        Map<String, String> parts = new LinkedHashMap<>();
        for (String part : document.split("(?m)^## ")) {
            int end = part.indexOf('\n');
            if (end >= 0) {
                parts.put(part.substring(0, end).strip(), plain(part.substring(end)));
            }
        }
        return parts;
    }

    private static void mark(boolean[] quoted, String text, String quote) {
        for (int at = text.indexOf(quote); at >= 0; at = text.indexOf(quote, at + 1)) {
            for (int i = at; i < at + quote.length(); i++) {
                quoted[i] = true;
            }
        }
    }

    /** The pieces of the text that no quote holds, but for what stands between sentences. */
    private static String rest(String text, boolean[] quoted) {
        StringBuilder rest = new StringBuilder();
        for (int i = 0; i < text.length(); i++) {
            rest.append(quoted[i] ? '\n' : text.charAt(i));
        }
        List<String> pieces = new ArrayList<>();
        for (String piece : rest.toString().split("\n+")) {
            if (!BETWEEN.matcher(piece).replaceAll("").isEmpty()) {
                pieces.add(piece.strip());
            }
        }
        return String.join(" | ", pieces);
    }

    /** What the test hands to Checks.sentence(). */
    private static Set<String> quotes(String test) throws IOException {
        Set<String> quotes = new LinkedHashSet<>();
        Source source = Source.parse(TESTS.resolve(test + ".java"));
        for (MethodInvocationTree call : Source.nodes(source.unit, MethodInvocationTree.class)) {
            if (call.getMethodSelect().toString().equals("Checks.sentence")) {
                quotes.add(plain(textOf(call.getArguments().get(0), source)));
            }
        }
        return quotes;
    }

    private static String textOf(ExpressionTree expression, Source source) {
        if (expression instanceof LiteralTree literal) {
            return literal.getValue().toString();
        }
        if (expression instanceof BinaryTree joined) {
            return textOf(joined.getLeftOperand(), source) + textOf(joined.getRightOperand(), source);
        }
        for (VariableTree constant : Source.nodes(source.unit, VariableTree.class)) {
            boolean named = expression instanceof IdentifierTree name && name.getName().equals(constant.getName());
            if (named && constant.getInitializer() instanceof LiteralTree literal) {
                return literal.getValue().toString();
            }
        }
        return "unreadable quote " + expression;
    }

    /** All white space as one blank, so that the breaks of lines do not count. */
    private static String plain(String text) {
        return text.replaceAll("\\s+", " ").strip();
    }
}
