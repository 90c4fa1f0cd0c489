import java.io.IOException;
import java.nio.file.Files;
import java.nio.file.Path;
import java.util.LinkedHashMap;
import java.util.List;
import java.util.Map;
import java.util.regex.Matcher;
import java.util.regex.Pattern;

/** Those rules of LANGUAGE.md that the text of the class shows; FaceTest sees to the ones that the class file shows. */
public final class LanguageTest {
    private static final Check CHECK = new Check("LanguageTest");
    private static final Path SOURCE = Path.of("src/main/java/LyndonTransform.java");

    // Rules 1 to 6 and 11. None of these words may stand in the class, not even as a name: so the text alone tells.
    private static final List<String> FORBIDDEN = List.of("package", "import", "interface", "enum", "record", "float",
        "double", "String", "Object", "Math", "Integer", "System", "Arrays", "Thread", "null", "throw", "throws", "try",
        "catch", "finally", "synchronized", "assert", "instanceof", "var", "native", "volatile", "hashCode", "equals",
        "getClass", "toString", "wait", "notify");

    private static final Pattern METHOD = Pattern.compile(
        "(?m)^    (?:public|private) (?:static )?(?:int|boolean|void|long) (\\w+)\\([^)]*\\) \\{\\n(.*?)^    \\}",
        Pattern.DOTALL | Pattern.MULTILINE);
    private static final Pattern ARRAY_FIELD = Pattern.compile(
        "    private final (?:int|boolean|long|short|byte|char)\\[\\] \\w+ = new \\w+\\[(?:[A-Z_]+|[1-9]\\d*)\\];");
    // Rule 8 leaves other loops too; the class needs none, and this form shows its end at once.
    private static final Pattern LOOP = Pattern.compile(
        " *for \\(int (\\w+) = [\\w +]+; \\1 [<>] \\w+(?: && [\\w >]+)?; \\1(?:\\+\\+|--)\\) \\{");
    private static final int MOST_LINES = 60;
    private static final int DEEPEST = 6;

    private static final Map<String, String> BODIES = new LinkedHashMap<>();

    public static void main(String[] args) throws IOException {
        String text = withoutComments(Files.readString(SOURCE));
        Matcher method = METHOD.matcher(text);
        while (method.find()) {
            BODIES.put(method.group(1), method.group(2));
        }
        // All 16 of the face at least: else the pattern has missed what it should look at.
        CHECK.isTrue("the methods are found", BODIES.size() > 16);
        forbiddenWords(text);
        arrays(text);
        loops(text);
        methods();
        CHECK.finish();
    }

    private static String withoutComments(String text) {
        return text.replaceAll("(?s)/\\*.*?\\*/", "").replaceAll("//[^\\n]*", "");
    }

    private static void forbiddenWords(String text) {
        for (String word : FORBIDDEN) {
            CHECK.isTrue("the word " + word + " is not used", !text.matches("(?s).*\\b" + word + "\\b.*"));
        }
        for (String sign : List.of("->", "::", "\"", "static {", "@", "[][]")) {
            CHECK.isTrue("the sign " + sign + " is not used", !text.contains(sign));
        }
        CHECK.due("number of classes", text.split("\\bclass\\b", -1).length - 1, 1);
    }

    private static void arrays(String text) {
        for (String line : text.split("\\n")) {
            if (line.matches(".*\\bnew\\b.*")) {
                CHECK.isTrue("made at the start, with a constant length: " + line, ARRAY_FIELD.matcher(line).matches());
            }
        }
    }

    private static void loops(String text) {
        for (String line : text.split("\\n")) {
            if (line.matches(".*\\b(?:for|while|do)\\b.*")) {
                CHECK.isTrue("a counter against a bound: " + line, LOOP.matcher(line).matches());
            }
        }
    }

    private static void methods() {
        for (Map.Entry<String, String> method : BODIES.entrySet()) {
            String name = method.getKey();
            CHECK.isTrue(name + " is short", method.getValue().split("\\n").length <= MOST_LINES);
            int depth = depth(name, 1);
            CHECK.isTrue(name + " goes at most six deep and never back to itself: " + depth, depth <= DEEPEST);
            CHECK.isTrue(name + " has no call inside the arguments of a call", !nestedCall(method.getValue()));
        }
    }

    // A circle of calls would go down for ever, so the search ends where it is too deep already.
    private static int depth(String name, int above) {
        int deepest = above;
        for (String called : BODIES.keySet()) {
            if (above <= DEEPEST && calls(BODIES.get(name), called)) {
                deepest = Math.max(deepest, depth(called, above + 1));
            }
        }
        return deepest;
    }

    private static boolean calls(String body, String name) {
        return body.matches("(?s).*\\b" + name + "\\(.*");
    }

    private static boolean nestedCall(String body) {
        Matcher call = Pattern.compile("\\b(\\w+)\\(").matcher(body);
        while (call.find()) {
            if (BODIES.containsKey(call.group(1))) {
                String inside = arguments(body, call.end());
                for (String name : BODIES.keySet()) {
                    if (calls(inside, name)) {
                        return true;
                    }
                }
            }
        }
        return false;
    }

    private static String arguments(String body, int from) {
        int open = 1;
        int end = from;
        while (open > 0) {
            open += body.charAt(end) == '(' ? 1 : body.charAt(end) == ')' ? -1 : 0;
            end++;
        }
        return body.substring(from, end - 1);
    }
}
