import java.io.IOException;
import java.lang.reflect.Method;
import java.lang.reflect.Modifier;
import java.nio.file.Files;
import java.nio.file.Path;
import java.util.regex.Matcher;
import java.util.regex.Pattern;
import java.util.stream.Stream;

/** README.md names the whole public face, and its example goes as it says. */
public final class ReadmeTest {
    private static final Check CHECK = new Check("ReadmeTest");
    private static final Pattern EXAMPLE = Pattern.compile("(?s)```java\\n(.*?)```");
    private static final Pattern MAKE = Pattern.compile("new LyndonTransform\\((\\d+), (\\d+)\\)");
    private static final Pattern CALL = Pattern.compile("x\\.(\\w+)\\((\\d*)\\);");
    private static final Pattern ANSWER = Pattern.compile("answers (-?\\d+|[A-Z_]+)");
    private static final Pattern LIST = Pattern.compile("the (block|code) is now (empty|\\d+(?: \\d+)*)");
    private static final Pattern FACTORS = Pattern.compile("the factors are ([\\d |]+)");
    private static final Pattern ROWS = Pattern.compile("the rows are ([\\d, ]+)");

    public static void main(String[] args) throws IOException, ReflectiveOperationException {
        String text = Files.readString(Path.of("README.md"));
        constants(text);
        methods(text);
        example(text);
        CHECK.finish();
    }

    private static void constants(String text) throws ReflectiveOperationException {
        for (String name : new String[] {"OK", "NONE", "BAD", "FULL", "TOO_LONG"}) {
            int value = LyndonTransform.class.getField(name).getInt(null);
            CHECK.isTrue(name + " stands in the table", text.contains("| `" + name + "` | " + value + " | "));
        }
    }

    private static void methods(String text) {
        CHECK.isTrue("the constructor is told", text.contains("`LyndonTransform(int symbols, int capacity)`"));
        for (Method method : LyndonTransform.class.getDeclaredMethods()) {
            if (Modifier.isPublic(method.getModifiers())) {
                String parameter = method.getParameterCount() == 0 ? "" : "int \\w+";
                String row = "(?s).*\\n\\| `" + method.getReturnType() + " " + method.getName() + "\\(" + parameter
                    + "\\)` \\| .*";
                CHECK.isTrue(method.getName() + " has its row", text.matches(row));
            }
        }
    }

    private static void example(String text) throws ReflectiveOperationException {
        Matcher found = EXAMPLE.matcher(text);
        CHECK.isTrue("there is an example", found.find());
        String example = found.group(1);
        Matcher make = MAKE.matcher(example);
        CHECK.isTrue("it makes an object", make.find());
        LyndonTransform x = new LyndonTransform(Integer.parseInt(make.group(1)), Integer.parseInt(make.group(2)));
        int told = 0;
        for (String line : example.split("\\n")) {
            Object answer = run(x, line);
            told += ANSWER.matcher(line).results().count() + LIST.matcher(line).results().count();
            compare(x, line, answer);
        }
        // Else the patterns have missed what they should look at.
        CHECK.isTrue("it tells answers and lists", told >= 10);
    }

    /** Makes the calls of a line, and gives back what the last one answered. */
    private static Object run(LyndonTransform x, String line) throws ReflectiveOperationException {
        Object answer = null;
        Matcher call = CALL.matcher(line);
        while (call.find()) {
            String argument = call.group(2);
            answer = argument.isEmpty()
                ? LyndonTransform.class.getMethod(call.group(1)).invoke(x)
                : LyndonTransform.class.getMethod(call.group(1), int.class).invoke(x, Integer.valueOf(argument));
        }
        return answer;
    }

    private static void compare(LyndonTransform x, String line, Object got) throws ReflectiveOperationException {
        Matcher answer = ANSWER.matcher(line);
        if (answer.find()) {
            CHECK.due(line, (Integer) got, value(answer.group(1)));
        }
        Matcher list = LIST.matcher(line);
        if (list.find()) {
            CHECK.due(line, list.group(1).equals("block") ? Coders.block(x) : Coders.code(x), numbers(list.group(2)));
        }
        Matcher factors = FACTORS.matcher(line);
        if (factors.find()) {
            CHECK.due(line, Coders.factorStarts(x), starts(factors.group(1)));
        }
        Matcher rows = ROWS.matcher(line);
        if (rows.find()) {
            CHECK.due(line, Coders.rows(x), numbers(rows.group(1)));
        }
    }

    private static int value(String word) throws ReflectiveOperationException {
        return Character.isLetter(word.charAt(0)) ? LyndonTransform.class.getField(word).getInt(null)
            : Integer.parseInt(word);
    }

    private static int[] numbers(String words) {
        return words.equals("empty") ? Coders.NOTHING
            : Stream.of(words.trim().split("[, ]+")).mapToInt(Integer::parseInt).toArray();
    }

    private static int[] starts(String words) {
        String[] factors = words.split("\\|");
        int[] starts = new int[factors.length];
        for (int j = 1; j < factors.length; j++) {
            starts[j] = starts[j - 1] + numbers(factors[j - 1]).length;
        }
        return starts;
    }
}
