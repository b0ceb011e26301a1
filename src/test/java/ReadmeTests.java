import java.lang.reflect.Field;
import java.lang.reflect.Method;
import java.lang.reflect.Modifier;
import java.nio.file.Files;
import java.nio.file.Path;
import java.util.HashMap;
import java.util.Map;
import java.util.regex.Matcher;
import java.util.regex.Pattern;

/** README.md tells the truth: its example answers as it says, and it names all calls. The third argument is its file. */
public final class ReadmeTests {
    private static final Pattern CALL =
            Pattern.compile("(?:int (\\w+) = )?x\\.(\\w+)\\((.*)\\);\\s*// (-?\\d+)\\b.*");
    private static final Checks CHECKS = new Checks("ReadmeTests");
    private static final Map<String, Object> NAMED = new HashMap<>();

    public static void main(String[] args) throws Exception {
        String text = Files.readString(Path.of(args[2]));
        nameConstants(text);
        nameCalls(text);
        playExample(text);
        CHECKS.end();
    }

    private static void nameConstants(String text) throws IllegalAccessException {
        for (Field field : FirstStates.class.getFields()) {
            NAMED.put("FirstStates." + field.getName(), field.get(null));
            String row = "| `" + field.getName() + "` | " + field.get(null) + " |";
            CHECKS.holds("the row " + row, text.contains(row));
        }
    }

    private static void nameCalls(String text) {
        for (Method method : FirstStates.class.getDeclaredMethods()) {
            if (Modifier.isPublic(method.getModifiers())) {
                CHECKS.holds("names " + method.getName(), text.matches("(?s).*\\|[^|\n]*`" + method.getName() + "\\(.*"));
            }
        }
    }

    private static void playExample(String text) throws ReflectiveOperationException {
        String example = text.replaceAll("(?s).*```java\n(.*?)```.*", "$1");
        FirstStates x = new FirstStates();
        String[] lines = example.split("\n");
        CHECKS.holds("the first line makes the object", lines[0].equals("FirstStates x = new FirstStates();"));
        CHECKS.holds("there are calls", lines.length > 1);
        for (int i = 1; i < lines.length; i++) {
            playLine(x, lines[i]);
        }
    }

    private static void playLine(FirstStates x, String line) throws ReflectiveOperationException {
        Matcher call = CALL.matcher(line);
        CHECKS.holds("a call and its answer: " + line, call.matches());
        if (!call.matches()) {
            return;
        }
        String[] words = call.group(3).isEmpty() ? new String[0] : call.group(3).split(", ");
        Object[] given = new Object[words.length];
        for (int i = 0; i < words.length; i++) {
            given[i] = valueOf(words[i]);
        }
        int got = (int) methodOf(call.group(2)).invoke(x, given);
        CHECKS.due(line, got, Integer.parseInt(call.group(4)));
        if (call.group(1) != null) {
            NAMED.put(call.group(1), got);
        }
    }

    private static Object valueOf(String word) {
        if (word.equals("true") || word.equals("false")) {
            return Boolean.valueOf(word);
        }
        return NAMED.containsKey(word) ? NAMED.get(word) : Integer.valueOf(word);
    }

    private static Method methodOf(String name) throws NoSuchMethodException {
        for (Method method : FirstStates.class.getMethods()) {
            if (method.getName().equals(name)) {
                return method;
            }
        }
        throw new NoSuchMethodException(name);
    }
}
