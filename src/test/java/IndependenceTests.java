import java.util.ArrayList;
import java.util.Collections;
import java.util.List;

/** What no other answer depends on: steal, checkpoint, and the moments at which a restart crashes. */
public final class IndependenceTests extends Cases {
    private static final String LOOK = "value, now 0, now 1, now 4, now 5, now 8, now 11, state 0, state 1, state 2,"
        + "changes 0, changes 1, changes 2,";
    /** Committed, prepared, open and undone changes on all three pages, with restarts between. */
    private static final String RUN = "begin, begin, begin, write 0 0 1, add 0 4 2, add 1 4 3, write 2 8 4, read 2 8,"
        + "back 0 1, add 0 11 5, write 1 5 6, commit 2, write 0 0 7, prepare 1, begin, add 2 4 8, add 2 1 9,"
        + "back 2 1, crash, restart 0," + LOOK + "begin, add 0 4 10, write 0 8 11, read 0 11, write 0 5 1,"
        + "abort 1, add 0 5 2, prepare 0, begin, add 1 4 20, write 1 0 30, crash, restart 0," + LOOK
        + "commit 0, begin, write 0 8 3, abort 0, crash, restart 0," + LOOK;
    /** What is due to the calls of RUN, so that it is not only the same but right. */
    private static final int[] DUE = {0, 1, 2, 0, 0, 0, 0, 0,
        0, 0, 0, 0, 0, 0, 2, 0, 0,
        0, 1, 1,
        4, 0, 0, 3, 6, 4, 0, 0, 2, 0, -1, 2, -1,
        0, 0, 0, 0, 3,
        0, 0, 0, 1, 0, 0, 1, 1,
        0, 0, 0, 10, 2, 11, 0, 2, 0, 0, 3, -1, -1,
        0, 0, 0, 0, 1, 1,
        0, 0, 0, 10, 2, 11, 0, 0, 0, 0, -1, -1, -1};
    /** Locks of each kind, their taking, refusal and keeping. */
    private static final String LOCKS = "begin, begin, begin, read 0 0, add 0 4 1, write 0 8 2, read 1 0, add 1 4 3,"
        + "write 1 0 1, add 1 0 1, read 1 4, write 1 4 1, read 1 8, add 1 8 1, write 1 8 1, add 2 0 1, read 2 4,"
        + "read 0 4, commit 1, read 0 4, add 2 4 1, back 0 0, read 2 8, write 2 0 1, read 2 0, add 0 4 1, prepare 0,"
        + "read 2 8, write 2 4 1, add 2 4 1, crash, restart 0, begin, read 1 4, add 1 4 1, write 1 0 1, commit 0,"
        + "read 1 4, value,";
    private static final int[] LOCKS_DUE = {0, 1, 2, 0, 0, 0, 0, 0,
        3, 3, 3, 3, 3, 3, 3, 3, 3,
        3, 0, 0, 3, 0, 3, 3, 0, 0, 0,
        0, 3, 0, 1, 1, 1, 3, 0, 0, 0,
        0, 5};
    /** Numbers of changes up to the last that is accepted, before and after a restart. */
    private static final String NUMBERS = "begin, add 0 0 1, begin," + "add 1 11 1, commit 1, begin,".repeat(10)
        + "add 1 4 1,".repeat(11) + "prepare 1, begin," + "add 2 8 1, back 2 0,".repeat(9) + "write 2 8 1, write 2 8 1,"
        + "back 0 0, write 2 8 1, commit 0, write 2 8 1, crash, restart 0, begin, add 0 11 1, commit 0, now 11, now 4,";
    private static final int[] NUMBERS_DUE = numbersDue();

    public static void main(String[] args) {
        start("IndependenceTests");
        new IndependenceTests(RUN, DUE).all();
        new IndependenceTests(LOCKS, LOCKS_DUE).all();
        new IndependenceTests(NUMBERS, NUMBERS_DUE).all();
        end();
    }

    private static int[] numbersDue() {
        List<Integer> due = new ArrayList<>(List.of(0, 0, 1));
        for (int i = 0; i < 10; i++) {
            due.addAll(List.of(0, 0, 1));
        }
        due.addAll(Collections.nCopies(10, 0));
        due.addAll(List.of(4, 0, 2));
        due.addAll(Collections.nCopies(18, 0));
        due.addAll(List.of(0, 4, 0, 4, 0, 0, 1, 1, 0, 0, 0, 11, 10));
        return due.stream().mapToInt(Integer::intValue).toArray();
    }

    private final List<String> calls;
    private final int[] due;

    private IndependenceTests(String run, int[] due) {
        calls = Script.calls(run);
        this.due = due;
    }

    private void all() {
        about("promises 14, 15 and 17");
        asDue();
        about("promise 14");
        sentence("No other answer of any call depends on it");
        for (int p = 0; p < 3; p++) {
            insertedAnywhere("steal " + p);
        }
        same("steal 0, steal 1, steal 2", insertedEverywhere("steal 0", "steal 1", "steal 2"));
        about("promise 15");
        sentence("No other answer of any call depends on it");
        insertedAnywhere("checkpoint");
        same("checkpoint", insertedEverywhere("checkpoint"));
        same("both", insertedEverywhere("steal 0", "checkpoint", "steal 1", "steal 2"));
        about("promise 17");
        everyMoment();
    }

    private void asDue() {
        sentence("the answers of the run itself");
        List<Integer> answers = answersTo(calls);
        checks().due("calls", answers.size(), due.length);
        for (int i = 0; i < due.length && i < answers.size(); i++) {
            checks().due("call " + i + ", " + calls.get(i), answers.get(i), due[i]);
        }
    }

    private void insertedAnywhere(String inserted) {
        for (int place = 0; place <= calls.size(); place++) {
            RecoverableTable table = new RecoverableTable();
            List<Integer> answers = new ArrayList<>();
            for (int i = 0; i < calls.size(); i++) {
                if (i == place) {
                    Script.answer(table, inserted);
                }
                answers.add(Script.answer(table, calls.get(i)));
            }
            same(inserted + " before call " + place, answers);
        }
    }

    private List<Integer> insertedEverywhere(String... inserted) {
        RecoverableTable table = new RecoverableTable();
        List<Integer> answers = new ArrayList<>();
        for (String call : calls) {
            for (String other : inserted) {
                Script.answer(table, other);
            }
            answers.add(Script.answer(table, call));
        }
        return answers;
    }

    private void everyMoment() {
        sentence("no answer of any call depends on p");
        for (int p = -300; p < 20000; p++) {
            same("restart " + p, withMoment(p));
        }
        for (int bit = 0; bit < 32; bit++) {
            same("restart with bit " + bit, withMoment(1 << bit));
            same("restart with bits below " + bit, withMoment((1 << bit) - 1));
        }
        for (int p : new int[] {LEAST, MOST, 1605763, 0x7f7f7f, 0x010101}) {
            same("restart " + p, withMoment(p));
        }
    }

    private List<Integer> withMoment(int p) {
        List<String> moved = new ArrayList<>();
        for (String call : calls) {
            moved.add(call.equals("restart 0") ? "restart " + p : call);
        }
        return answersTo(moved);
    }

    private static List<Integer> answersTo(List<String> calls) {
        RecoverableTable table = new RecoverableTable();
        List<Integer> answers = new ArrayList<>();
        for (String call : calls) {
            answers.add(Script.answer(table, call));
        }
        return answers;
    }

    private void same(String what, List<Integer> answers) {
        boolean equal = answers.size() == due.length;
        for (int i = 0; equal && i < due.length; i++) {
            equal = answers.get(i) == due[i];
        }
        checks().due(what + ": the other answers are as due", equal, true);
    }
}
