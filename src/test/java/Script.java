import java.util.ArrayList;
import java.util.List;

/** Calls written as words, such as "begin" or "write 0 3 7", several of them with commas between. */
final class Script {
    private Script() {
    }

    static List<String> calls(String script) {
        List<String> calls = new ArrayList<>();
        for (String call : script.split(",")) {
            if (!call.isBlank()) {
                calls.add(call.strip());
            }
        }
        return calls;
    }

    /** A new table on which the calls have been made. */
    static RecoverableTable after(String script) {
        RecoverableTable table = new RecoverableTable();
        for (String call : calls(script)) {
            answer(table, call);
        }
        return table;
    }

    static int answer(RecoverableTable table, String call) {
        String[] words = call.split(" ");
        int a = words.length > 1 ? Integer.parseInt(words[1]) : 0;
        int b = words.length > 2 ? Integer.parseInt(words[2]) : 0;
        int c = words.length > 3 ? Integer.parseInt(words[3]) : 0;
        return switch (words[0]) {
            case "begin" -> table.begin();
            case "read" -> table.read(a, b);
            case "value" -> table.value();
            case "write" -> table.write(a, b, c);
            case "add" -> table.add(a, b, c);
            case "changes" -> table.changes(a);
            case "back" -> table.back(a, b);
            case "commit" -> table.commit(a);
            case "abort" -> table.abort(a);
            case "prepare" -> table.prepare(a);
            case "state" -> table.state(a);
            case "now" -> table.now(a);
            case "steal" -> table.steal(a) ? 1 : 0;
            case "checkpoint" -> table.checkpoint() ? 1 : 0;
            case "crash" -> table.crash() ? 1 : 0;
            case "restart" -> table.restart(a) ? 1 : 0;
            default -> throw new IllegalArgumentException(call);
        };
    }
}
