import java.util.ArrayList;
import java.util.List;

/** "Every call makes its tests in the order in which they are named here; a call that is refused changes nothing". */
public final class RefusalTests extends Cases {
    private static final int FALSE = 0;
    private static final String LEAST_TEXT = " " + LEAST, MOST_TEXT = " " + MOST;

    /** Four are there: 0 with locks of all kinds, 1 PREPARED, 2 with ten changes, 3 with nothing but a read. */
    private static final String FOUR = "begin, begin, begin, begin, write 0 0 5, add 0 1 6, read 0 2, read 0 0,"
        + "write 1 3 7, add 1 4 8, read 1 5, prepare 1, add 2 6 1, add 2 6 1, add 2 6 1, add 2 6 1, add 2 6 1,"
        + "add 2 6 1, add 2 6 1, add 2 6 1, add 2 6 1, add 2 6 1, read 3 7, add 0 6 1, back 0 2, read 0 0,";
    /** Two are there, an OPEN and a PREPARED one, and 1 and 3 are free. */
    private static final String GAPS = "begin, begin, begin, begin, write 0 0 5, write 2 2 6, add 2 9 4, prepare 2,"
        + "commit 1, abort 3, read 0 0,";
    private static final String FELL = FOUR + "crash,";
    private static final String FELL_EMPTY = "crash,";
    /** Transaction 0 has made change 1 and undone it, and change 32 would be the next. */
    private static final String WINDOW = "begin, add 0 0 3, back 0 0, write 0 1 7, read 0 1, begin,"
        + spending(1, 29) + "begin, read 2 2,";

    /** What is asked after each situation, to tell whether a refused call has changed something. */
    private static final List<String> QUESTIONS = questions();

    public static void main(String[] args) {
        start("RefusalTests");
        about("a call that is refused changes nothing");
        refusedAccess("read", "", BUSY);
        refusedAccess("write", " 9", FULL);
        refusedAccess("add", " 9", FULL);
        refusedByWindow();
        refusedBegin();
        refusedBack();
        refusedEnd("commit");
        refusedEnd("abort");
        refusedPrepare();
        refusedLooks();
        refusedSystemCalls();
        about("Every call makes its tests in the order in which they are named here");
        orderOfAccess("read", "", OK);
        orderOfAccess("write", " 9", FULL);
        orderOfAccess("add", " 9", FULL);
        orderOfBack();
        orderOfEnds();
        end();
    }

    private static void refusedAccess(String call, String amount, int whenTen) {
        refused(FOUR, call + " -1 0" + amount, BAD);
        refused(FOUR, call + " 4 0" + amount, BAD);
        refused(FOUR, call + LEAST_TEXT + " 0" + amount, BAD);
        refused(FOUR, call + MOST_TEXT + " 0" + amount, BAD);
        refused(FOUR, call + " 0 -1" + amount, BAD);
        refused(FOUR, call + " 0 12" + amount, BAD);
        refused(FOUR, call + " 0" + LEAST_TEXT + amount, BAD);
        refused(FOUR, call + " 0" + MOST_TEXT + amount, BAD);
        refused(FELL, call + " 0 0" + amount, DOWN);
        refused(FELL, call + " 1 3" + amount, DOWN);
        refused(FELL_EMPTY, call + " 3 11" + amount, DOWN);
        refused(GAPS, call + " 1 0" + amount, NONE);
        refused(GAPS, call + " 3 11" + amount, NONE);
        refused(GAPS, call + " 2 2" + amount, NONE);
        refused(GAPS, call + " 2 7" + amount, NONE);
        refused(FOUR, call + " 3 0" + amount, BUSY);
        refused(FOUR, call + " 3 3" + amount, BUSY);
        if (whenTen == FULL) {
            refused(FOUR, call + " 2 6" + amount, call.equals("write") ? BUSY : FULL);
            refused(FOUR, call + " 2 11" + amount, FULL);
            refused(FOUR, call + " 3 2" + amount, BUSY);
        } else {
            refused(FOUR, call + " 3 1" + amount, BUSY);
            refused(FOUR, call + " 2 6" + amount, BUSY);
        }
    }

    private static void refusedByWindow() {
        refused(WINDOW, "add 1 5 9", FULL);
        refused(WINDOW, "write 1 5 9", FULL);
        refused(WINDOW, "add 1 2 9", BUSY);
        refused(WINDOW, "write 0 1 9", FULL);
        refused(WINDOW, "add 0 1 9", FULL);
        refused(WINDOW, "write 2 2 9", FULL);
        refused(WINDOW, "add 2 2 9", FULL);
        refused(WINDOW + "prepare 0, crash, restart 1, begin,", "add 1 5 9", FULL);
    }

    private static void refusedBegin() {
        refused(FOUR, "begin", -1);
        refused(FELL, "begin", -1);
        refused(FELL_EMPTY, "begin", -1);
    }

    private static void refusedBack() {
        refused(FOUR, "back -1 0", BAD);
        refused(FOUR, "back 4 0", BAD);
        refused(FOUR, "back" + MOST_TEXT + " 0", BAD);
        refused(FELL, "back 0 0", DOWN);
        refused(FELL, "back 1 0", DOWN);
        refused(GAPS, "back 1 0", NONE);
        refused(GAPS, "back 2 0", NONE);
        refused(GAPS, "back 2 1", NONE);
        refused(FOUR, "back 0 -1", BAD);
        refused(FOUR, "back 0" + LEAST_TEXT, BAD);
        refused(FOUR, "back 0 3", BAD);
        refused(FOUR, "back 0" + MOST_TEXT, BAD);
        refused(FOUR, "back 2 11", BAD);
        refused(FOUR, "back 3 1", BAD);
    }

    private static void refusedEnd(String call) {
        refused(FOUR, call + " -1", BAD);
        refused(FOUR, call + " 4", BAD);
        refused(FOUR, call + LEAST_TEXT, BAD);
        refused(FELL, call + " 0", DOWN);
        refused(FELL, call + " 1", DOWN);
        refused(GAPS, call + " 1", NONE);
        refused(GAPS, call + " 3", NONE);
    }

    private static void refusedPrepare() {
        refusedEnd("prepare");
        refused(GAPS, "prepare 2", NONE);
        refused(FOUR, "prepare 3", BAD);
        refused(FOUR + "back 0 0,", "prepare 0", BAD);
    }

    private static void refusedLooks() {
        refused(FOUR, "now -1", 0);
        refused(FOUR, "now 12", 0);
        refused(FELL, "now 3", 0);
        refused(FOUR, "state -1", 0);
        refused(FOUR, "state 4", 0);
        refused(GAPS, "state 1", 0);
        refused(FELL, "state 1", 0);
        refused(FOUR, "changes -1", -1);
        refused(FOUR, "changes 4", -1);
        refused(GAPS, "changes 1", -1);
        refused(FELL, "changes 1", -1);
    }

    private static void refusedSystemCalls() {
        refused(FOUR, "steal -1", FALSE);
        refused(FOUR, "steal 3", FALSE);
        refused(FELL, "steal 0", FALSE);
        refused(FELL, "checkpoint", FALSE);
        refused(FELL, "crash", FALSE);
        refused(FELL_EMPTY, "crash", FALSE);
        refused(FOUR, "restart 0", FALSE);
        refused(GAPS, "restart 131", FALSE);
        refused("", "restart -1", FALSE);
    }

    private static void orderOfAccess(String call, String amount, int whenTen) {
        ordered(FELL, call + " 4 0" + amount, "BAD before DOWN", BAD);
        ordered(FELL, call + " 0 12" + amount, "BAD before DOWN", BAD);
        ordered(GAPS, call + " 1 12" + amount, "BAD before NONE", BAD);
        ordered(GAPS, call + " 2 -1" + amount, "BAD before NONE", BAD);
        ordered(FOUR, call + " 2 12" + amount, "BAD before FULL", BAD);
        ordered(FELL, call + " 0 3" + amount, "DOWN before NONE", DOWN);
        ordered(FELL_EMPTY, call + " 0 3" + amount, "DOWN before NONE", DOWN);
        ordered(GAPS, call + " 1 0" + amount, "NONE before BUSY", NONE);
        ordered(FOUR, call + " 1 0" + amount, "NONE before BUSY", NONE);
        ordered(FOUR + "prepare 2,", call + " 2 11" + amount, "NONE before FULL", NONE);
        ordered(WINDOW + "commit 1,", call + " 1 5" + amount, "NONE before FULL", NONE);
        ordered(FOUR, call + " 2 0" + amount, "BUSY before FULL", BUSY);
        ordered(FOUR, call + " 2 3" + amount, "BUSY before FULL", BUSY);
        ordered(WINDOW, call + " 1 1" + amount, "BUSY before FULL", BUSY);
        ordered(FOUR, call + " 2 11" + amount, "ten changes in effect", whenTen);
        ordered(WINDOW, call + " 1 5" + amount, "more than 30 above", whenTen);
    }

    private static void orderOfBack() {
        ordered(FELL, "back 4 0", "BAD before DOWN", BAD);
        ordered(FOUR, "back -1 -1", "BAD", BAD);
        ordered(FELL, "back 0 0", "DOWN before NONE", DOWN);
        ordered(FELL, "back 1 -1", "DOWN before BAD for n", DOWN);
        ordered(FELL, "back 1" + MOST_TEXT, "DOWN before BAD for n", DOWN);
        ordered(GAPS, "back 1 -1", "NONE before BAD for n", NONE);
        ordered(GAPS, "back 2 -1", "NONE before BAD for n", NONE);
        ordered(GAPS, "back 2 3", "NONE before BAD for n", NONE);
    }

    private static void orderOfEnds() {
        for (String call : new String[] {"commit", "abort", "prepare"}) {
            ordered(FELL, call + " 4", "BAD before DOWN", BAD);
            ordered(FELL, call + " -1", "BAD before DOWN", BAD);
            ordered(FELL, call + " 0", "DOWN before NONE", DOWN);
            ordered(FELL_EMPTY, call + " 0", "DOWN before NONE", DOWN);
        }
        ordered(FELL, "prepare 1", "DOWN before NONE", DOWN);
        ordered(GAPS, "prepare 1", "NONE before BAD for no change in effect", NONE);
    }

    private static void ordered(String situation, String call, String order, int due) {
        sentence(order);
        checks().due(call, Script.answer(Script.after(situation), call), due);
    }

    /** The call is refused so, and every question is then answered as if it had not been made. */
    private static void refused(String situation, String call, int due) {
        sentence(call + ", refused with " + due);
        checks().due(call, Script.answer(Script.after(situation), call), due);
        for (String question : QUESTIONS) {
            List<Integer> without = answers(Script.after(situation), question);
            List<Integer> with = answers(Script.after(situation + call + ","), question);
            checks().due(question + " after " + call + ": the same as before", with.equals(without), true);
        }
    }

    private static List<Integer> answers(RecoverableTable table, String script) {
        List<Integer> answers = new ArrayList<>();
        for (String call : Script.calls(script)) {
            answers.add(Script.answer(table, call));
        }
        return answers;
    }

    private static List<String> questions() {
        StringBuilder looks = new StringBuilder("value,");
        for (int r = 0; r < 12; r++) {
            looks.append("now ").append(r).append(',');
        }
        for (int t = 0; t < 4; t++) {
            looks.append("state ").append(t).append(", changes ").append(t).append(',');
        }
        List<String> questions = new ArrayList<>(List.of(looks.toString(), "restart 0," + looks,
            "crash, restart 0," + looks, "begin, begin, begin, begin, begin," + looks));
        for (String end : new String[] {"commit", "abort", "back", "prepare"}) {
            StringBuilder ends = new StringBuilder("restart 0,");
            for (int t = 0; t < 4; t++) {
                ends.append(end).append(' ').append(t).append(end.equals("back") ? " 0," : ",");
            }
            questions.add(ends.toString() + looks);
        }
        questions.addAll(questionsOnLocks());
        questions.addAll(questionsOnNumbers());
        return questions;
    }

    private static List<String> questionsOnLocks() {
        List<String> questions = new ArrayList<>();
        for (int r = 0; r < 12; r++) {
            for (int t = 0; t < 4; t++) {
                String place = " " + t + " " + r;
                questions.add("restart 0, begin, read" + place);
                questions.add("restart 0, begin, add" + place + " 1");
                questions.add("restart 0, begin, write" + place + " 1");
            }
        }
        return questions;
    }

    /** Where a change is refused as FULL tells its number, even when the least is not known. */
    private static List<String> questionsOnNumbers() {
        String last = "add 1 10 0, add 1 10 0, add 1 10 0";
        return List.of("restart 0, add 0 10 0," + "back 0 0, add 0 10 0,".repeat(40),
            "restart 0, commit 2, add 3 10 0," + "back 3 0, add 3 10 0,".repeat(40),
            "restart 0, commit 3, begin," + spending(3, 35) + last,
            "restart 0, commit 0, begin," + spending(0, 35) + last);
    }

    private static String spending(int t, int count) {
        return ("add " + t + " 11 0, commit " + t + ", begin,").repeat(count);
    }
}
