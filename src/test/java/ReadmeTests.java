import java.io.IOException;
import java.lang.reflect.Method;
import java.lang.reflect.Modifier;
import java.nio.file.Files;
import java.nio.file.Path;
import java.util.HashMap;
import java.util.List;
import java.util.Map;
import java.util.regex.Matcher;
import java.util.regex.Pattern;

/** What README.md tells: its example, call by call with the answer written beside it, and its list of calls. */
public final class ReadmeTests {
    private static final Pattern EXAMPLE = Pattern.compile("```java\n(.*?)```", Pattern.DOTALL);
    private static final Pattern CALL =
        Pattern.compile("(?:int (\\w) = )?table\\.(\\w+)\\((.*?)\\); *// (-?\\w+)(:.*)?");
    private static final Checks CHECKS = new Checks("ReadmeTests");

    public static void main(String[] args) throws IOException {
        String readme = Files.readString(Path.of("README.md"));
        CHECKS.part("the list of calls");
        for (Method method : RecoverableTable.class.getDeclaredMethods()) {
            if (Modifier.isPublic(method.getModifiers())) {
                String name = method.getName();
                CHECKS.due(name + " has a row", readme.contains("\n| `" + name + "("), true);
            }
        }
        CHECKS.part("the example");
        Matcher example = EXAMPLE.matcher(readme);
        CHECKS.due("there is one", example.find(), true);
        run(example.group(1));
        CHECKS.close();
    }

    private static void run(String example) {
        RecoverableTable table = new RecoverableTable();
        Map<String, Integer> names = new HashMap<>();
        String[] lines = example.split("\n");
        // The first line makes the table.
        for (int i = 1; i < lines.length; i++) {
            Matcher call = CALL.matcher(lines[i]);
            CHECKS.due(lines[i] + " tells its answer", call.matches(), true);
            StringBuilder words = new StringBuilder(call.group(2));
            for (String argument : arguments(call.group(3))) {
                words.append(' ').append(names.containsKey(argument) ? names.get(argument) : number(argument));
            }
            int answer = Script.answer(table, words.toString());
            CHECKS.due(lines[i], answer, number(call.group(4)));
            if (call.group(1) != null) {
                names.put(call.group(1), answer);
            }
        }
    }

    private static List<String> arguments(String text) {
        return text.isEmpty() ? List.of() : List.of(text.split(", "));
    }

    /** The int that a word of the example stands for; one that stands for none ends the test. */
    private static int number(String word) {
        return switch (word) {
            case "OK" -> RecoverableTable.OK;
            case "DOWN" -> RecoverableTable.DOWN;
            case "NONE" -> RecoverableTable.NONE;
            case "BUSY" -> RecoverableTable.BUSY;
            case "FULL" -> RecoverableTable.FULL;
            case "BAD" -> RecoverableTable.BAD;
            case "PREPARED" -> RecoverableTable.PREPARED;
            case "OPEN", "true" -> 1;
            case "false" -> 0;
            default -> Integer.parseInt(word);
        };
    }
}
