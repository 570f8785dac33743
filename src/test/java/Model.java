import java.util.ArrayList;
import java.util.List;

/**
 * What the document says, held in another way than the program holds it: every change ever accepted stays
 * in one history, and a record is what the changes that were never undone make of it.
 */
final class Model {
    private static final class Change {
        int number;
        int record;
        boolean sets;
        int argument;
        boolean undone;
    }

    private static final class Transaction {
        boolean prepared;
        final List<Change> made = new ArrayList<>();
        final String[] locks = {"", "", "", "", "", "", "", "", "", "", "", ""};

        List<Change> inEffect() {
            List<Change> found = new ArrayList<>();
            for (Change change : made) {
                if (!change.undone) {
                    found.add(change);
                }
            }
            return found;
        }
    }

    private final List<Change> history = new ArrayList<>();
    private final Transaction[] there = new Transaction[4];
    private boolean down = false;
    private int found = 0;

    int begin() {
        for (int t = 0; t < 4 && !down; t++) {
            if (there[t] == null) {
                there[t] = new Transaction();
                return t;
            }
        }
        return -1;
    }

    int read(int t, int r) {
        int answer = access(t, r, "S");
        if (answer == Table.OK) {
            there[t].locks[r] = needed(there[t], r, "S");
            found = fold(r);
        }
        return answer;
    }

    int value() {
        return found;
    }

    int write(int t, int r, int v) {
        return change(t, r, true, v);
    }

    int add(int t, int r, int d) {
        return change(t, r, false, d);
    }

    int changes(int t) {
        return state(t) == 0 ? -1 : there[t].inEffect().size();
    }

    int back(int t, int n) {
        int answer = named(t, true);
        if (answer != Table.OK) {
            return answer;
        }
        if (n < 0 || n > there[t].inEffect().size()) {
            return Table.BAD;
        }
        undo(there[t], n);
        return Table.OK;
    }

    int commit(int t) {
        int answer = named(t, false);
        if (answer == Table.OK) {
            there[t] = null;
        }
        return answer;
    }

    int abort(int t) {
        int answer = named(t, false);
        if (answer == Table.OK) {
            undo(there[t], 0);
            there[t] = null;
        }
        return answer;
    }

    int prepare(int t) {
        int answer = named(t, true);
        if (answer != Table.OK) {
            return answer;
        }
        List<Change> kept = there[t].inEffect();
        if (kept.isEmpty()) {
            return Table.BAD;
        }
        for (int r = 0; r < 12; r++) {
            boolean set = false;
            boolean added = false;
            for (Change change : kept) {
                set |= change.record == r && change.sets;
                added |= change.record == r && !change.sets;
            }
            there[t].locks[r] = set ? "X" : added ? "I" : "";
        }
        there[t].prepared = true;
        return Table.OK;
    }

    int state(int t) {
        if (down || t < 0 || t > 3 || there[t] == null) {
            return 0;
        }
        return there[t].prepared ? Table.PREPARED : Table.OPEN;
    }

    int now(int r) {
        return down || r < 0 || r > 11 ? 0 : fold(r);
    }

    boolean steal(int p) {
        return !down && p >= 0 && p <= 2;
    }

    boolean checkpoint() {
        return !down;
    }

    boolean crash() {
        if (down) {
            return false;
        }
        for (int t = 0; t < 4; t++) {
            if (there[t] != null && !there[t].prepared) {
                undo(there[t], 0);
                there[t] = null;
            }
        }
        down = true;
        return true;
    }

    boolean restart() {
        boolean was = down;
        down = false;
        return was;
    }

    private int fold(int r) {
        int result = 0;
        for (Change change : history) {
            if (change.record == r && !change.undone) {
                result = change.sets ? change.argument : result + change.argument;
            }
        }
        return result;
    }

    private int named(int t, boolean mustBeOpen) {
        if (t < 0 || t > 3) {
            return Table.BAD;
        }
        if (down) {
            return Table.DOWN;
        }
        if (there[t] == null || mustBeOpen && there[t].prepared) {
            return Table.NONE;
        }
        return Table.OK;
    }

    private int access(int t, int r, String kind) {
        if (t < 0 || t > 3 || r < 0 || r > 11) {
            return Table.BAD;
        }
        int answer = named(t, true);
        if (answer != Table.OK) {
            return answer;
        }
        String needed = needed(there[t], r, kind);
        for (Transaction other : there) {
            if (other != null && other != there[t] && !fits(other.locks[r], needed)) {
                return Table.BUSY;
            }
        }
        return Table.OK;
    }

    private static String needed(Transaction transaction, int r, String kind) {
        String held = transaction.locks[r];
        boolean hasOther = held.equals("S") && kind.equals("I") || held.equals("I") && kind.equals("S");
        return held.equals("X") || hasOther ? "X" : kind;
    }

    private static boolean fits(String held, String needed) {
        String pair = held + needed;
        return held.isEmpty() || pair.equals("SS") || pair.equals("II");
    }

    private int change(int t, int r, boolean sets, int argument) {
        String kind = sets ? "X" : "I";
        int answer = access(t, r, kind);
        if (answer != Table.OK) {
            return answer;
        }
        int number = history.size() + 1;
        if (there[t].inEffect().size() == 10 || number > leastNumber() + 30L) {
            return Table.FULL;
        }
        there[t].locks[r] = needed(there[t], r, kind);
        Change change = new Change();
        change.number = number;
        change.record = r;
        change.sets = sets;
        change.argument = argument;
        history.add(change);
        there[t].made.add(change);
        return Table.OK;
    }

    private long leastNumber() {
        long least = Integer.MAX_VALUE;
        for (Transaction transaction : there) {
            if (transaction != null) {
                for (Change change : transaction.made) {
                    least = Math.min(least, change.number);
                }
            }
        }
        return least;
    }

    private static void undo(Transaction transaction, int n) {
        List<Change> inEffect = transaction.inEffect();
        for (Change change : inEffect.subList(n, inEffect.size())) {
            change.undone = true;
        }
    }
}
