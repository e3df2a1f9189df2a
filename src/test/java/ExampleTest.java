import java.io.IOException;
import java.lang.reflect.Method;
import java.nio.file.Files;
import java.nio.file.Path;
import java.util.Map;
import java.util.Set;
import java.util.TreeSet;
import java.util.regex.Matcher;
import java.util.regex.Pattern;

/** The example of README.md, as it stands there: each call answers what is told behind it. */
public final class ExampleTest {
    private static final Check CHECK = new Check();
    private static final Pattern BLOCK = Pattern.compile("```java\n(.*?)```", Pattern.DOTALL);
    private static final Pattern CALL = Pattern.compile("x\\.(\\w+)\\((.*)\\); +// (-?\\d+|NONE|OUTSIDE|STATE|ROOM)\\b.*");
    private static final Map<String, Integer> NAMES = Map.of("NONE", MoveFronts.NONE,
        "OUTSIDE", MoveFronts.OUTSIDE, "STATE", MoveFronts.STATE, "ROOM", MoveFronts.ROOM);

    private final MoveFronts object = new MoveFronts();
    private final Set<String> called = new TreeSet<>();

    public static void main(String[] args) throws IOException, ReflectiveOperationException {
        CHECK.about("README.md: the answers in its example are the ones that the class gives");
        Matcher block = BLOCK.matcher(Files.readString(Path.of("README.md")));
        CHECK.due("README.md has an example", block.find());
        new ExampleTest().follow(block.group(1).split("\n"));
        CHECK.due("one example", !block.find());
        CHECK.end();
    }

    private void follow(String[] lines) throws ReflectiveOperationException {
        CHECK.due("first line: " + lines[0], lines[0].equals("MoveFronts x = new MoveFronts();"));
        for (int i = 1; i < lines.length; i++) {
            if (!lines[i].isEmpty() && !lines[i].startsWith("// ")) {
                answerOf(lines[i]);
            }
        }
        for (Method method : MoveFronts.class.getMethods()) {
            if (method.getDeclaringClass() == MoveFronts.class) {
                CHECK.due("called: " + method.getName(), called.contains(method.getName()));
            }
        }
    }

    private void answerOf(String line) throws ReflectiveOperationException {
        Matcher call = CALL.matcher(line);
        if (!call.matches()) {
            CHECK.due("a call with its answer: " + line, false);
            return;
        }
        String due = call.group(3);
        called.add(call.group(1));
        CHECK.due(line, answer(call.group(1), call.group(2)), NAMES.containsKey(due) ? NAMES.get(due) : Integer.parseInt(due));
    }

    private int answer(String name, String arguments) throws ReflectiveOperationException {
        String[] texts = arguments.isEmpty() ? new String[0] : arguments.split(", ");
        Class<?>[] types = new Class<?>[texts.length];
        Object[] values = new Object[texts.length];
        for (int i = 0; i < texts.length; i++) {
            boolean isBit = texts[i].equals("true") || texts[i].equals("false");
            types[i] = isBit ? boolean.class : int.class;
            values[i] = isBit ? (Object) Boolean.valueOf(texts[i]) : (Object) Integer.valueOf(texts[i]);
        }
        return (int) MoveFronts.class.getMethod(name, types).invoke(object, values);
    }
}
