/**
 * A table of records that survives crashes: ../shared/DOC.md says what each call promises.
 *
 * The fields hold only what answers depend on. A crash undoes the open transactions at once, so what it
 * leaves is already what a restart has to bring back: no log and no copy of a page is kept beside it, and
 * a restart that is cut short and begins anew finds the same state each time.
 */
public final class RecoverableTable {
    public static final int OK = 0, DOWN = 1, NONE = 2, BUSY = 3, FULL = 4, BAD = 5;
    public static final int OPEN = 1, PREPARED = 2;

    private static final int RECORDS = 12, PAGES = 3, TRANSACTIONS = 4;
    private static final int MOST_IN_EFFECT = 10, MOST_ABOVE_LEAST = 30;
    private static final int LOCKS = TRANSACTIONS * RECORDS;
    private static final int CHANGES = TRANSACTIONS * MOST_IN_EFFECT;
    private static final int NOT_THERE = 0;
    private static final int NO_CHANGE = 0;
    private static final int NO_LOCK = 0, S = 1, I = 2, X = 3;

    private final int[] values = new int[RECORDS];
    private final int[] locks = new int[LOCKS];

    private final int[] states = new int[TRANSACTIONS];
    private final int[] inEffect = new int[TRANSACTIONS];
    // Kept even when that change is undone: the window of change numbers counts undone changes too.
    private final int[] firstNumbers = new int[TRANSACTIONS];

    private final int[] changedRecords = new int[CHANGES];
    private final boolean[] isWrite = new boolean[CHANGES];
    // The value before a write, the amount of an add: an add cannot go back to a value, since others add too.
    private final int[] undoInts = new int[CHANGES];

    private boolean up;
    private int latestNumber;
    private int latestRead;

    public RecoverableTable() {
        up = true;
    }

    public int begin() {
        if (!up) {
            return -1;
        }
        for (int t = 0; t < TRANSACTIONS; t++) {
            if (states[t] == NOT_THERE) {
                states[t] = OPEN;
                return t;
            }
        }
        return -1;
    }

    public int read(int t, int r) {
        int refusal = refusalOfAccess(t, r, S);
        if (refusal != OK) {
            return refusal;
        }
        takeLock(t, r, S);
        latestRead = values[r];
        return OK;
    }

    public int value() {
        return latestRead;
    }

    public int write(int t, int r, int v) {
        int refusal = refusalOfChange(t, r, X);
        if (refusal != OK) {
            return refusal;
        }
        takeLock(t, r, X);
        noteChange(t, r, true, values[r]);
        values[r] = v;
        return OK;
    }

    public int add(int t, int r, int d) {
        int refusal = refusalOfChange(t, r, I);
        if (refusal != OK) {
            return refusal;
        }
        takeLock(t, r, I);
        noteChange(t, r, false, d);
        values[r] += d;
        return OK;
    }

    public int changes(int t) {
        return isThere(t) ? inEffect[t] : -1;
    }

    public int back(int t, int n) {
        int refusal = refusalUnlessOpen(t);
        if (refusal != OK) {
            return refusal;
        }
        if (n < 0 || n > inEffect[t]) {
            return BAD;
        }
        undoDownTo(t, n);
        return OK;
    }

    public int commit(int t) {
        int refusal = refusalUnlessThere(t);
        if (refusal != OK) {
            return refusal;
        }
        end(t);
        return OK;
    }

    public int abort(int t) {
        int refusal = refusalUnlessThere(t);
        if (refusal != OK) {
            return refusal;
        }
        undoDownTo(t, 0);
        end(t);
        return OK;
    }

    public int prepare(int t) {
        int refusal = refusalUnlessOpen(t);
        if (refusal != OK) {
            return refusal;
        }
        if (inEffect[t] == 0) {
            return BAD;
        }
        keepLocksOfChanges(t);
        states[t] = PREPARED;
        return OK;
    }

    public int state(int t) {
        return isThere(t) ? states[t] : 0;
    }

    public int now(int r) {
        return up && isRecord(r) ? values[r] : 0;
    }

    public boolean steal(int p) {
        return up && p >= 0 && p < PAGES;
    }

    public boolean checkpoint() {
        return up;
    }

    public boolean crash() {
        if (!up) {
            return false;
        }
        for (int t = 0; t < TRANSACTIONS; t++) {
            if (states[t] == OPEN) {
                undoDownTo(t, 0);
                end(t);
            }
        }
        up = false;
        return true;
    }

    public boolean restart(int p) {
        if (up) {
            return false;
        }
        up = true;
        return true;
    }

    private boolean isTransaction(int t) {
        return t >= 0 && t < TRANSACTIONS;
    }

    private boolean isRecord(int r) {
        return r >= 0 && r < RECORDS;
    }

    private boolean isThere(int t) {
        return up && isTransaction(t) && states[t] != NOT_THERE;
    }

    private int refusalUnlessThere(int t) {
        if (!isTransaction(t)) {
            return BAD;
        }
        if (!up) {
            return DOWN;
        }
        return states[t] == NOT_THERE ? NONE : OK;
    }

    private int refusalUnlessOpen(int t) {
        int refusal = refusalUnlessThere(t);
        if (refusal != OK) {
            return refusal;
        }
        return states[t] == OPEN ? OK : NONE;
    }

    private int refusalOfAccess(int t, int r, int wanted) {
        if (!isRecord(r)) {
            return BAD;
        }
        int refusal = refusalUnlessOpen(t);
        if (refusal != OK) {
            return refusal;
        }
        return isLockGranted(t, r, wanted) ? OK : BUSY;
    }

    private int refusalOfChange(int t, int r, int wanted) {
        int refusal = refusalOfAccess(t, r, wanted);
        if (refusal != OK) {
            return refusal;
        }
        return inEffect[t] >= MOST_IN_EFFECT || isNextNumberTooHigh() ? FULL : OK;
    }

    private boolean isNextNumberTooHigh() {
        int next = latestNumber + 1;
        for (int t = 0; t < TRANSACTIONS; t++) {
            if (firstNumbers[t] != NO_CHANGE && next - firstNumbers[t] > MOST_ABOVE_LEAST) {
                return true;
            }
        }
        return false;
    }

    private int lockSlot(int t, int r) {
        return t * RECORDS + r;
    }

    private int changeSlot(int t, int place) {
        return t * MOST_IN_EFFECT + place;
    }

    private int neededLock(int t, int r, int wanted) {
        int held = locks[lockSlot(t, r)];
        return held == NO_LOCK || held == wanted ? wanted : X;
    }

    private boolean isLockGranted(int t, int r, int wanted) {
        int needed = neededLock(t, r, wanted);
        for (int other = 0; other < TRANSACTIONS; other++) {
            int held = locks[lockSlot(other, r)];
            if (other != t && held != NO_LOCK && (held != needed || held == X)) {
                return false;
            }
        }
        return true;
    }

    private void takeLock(int t, int r, int wanted) {
        locks[lockSlot(t, r)] = neededLock(t, r, wanted);
    }

    private void dropLocks(int t) {
        for (int r = 0; r < RECORDS; r++) {
            locks[lockSlot(t, r)] = NO_LOCK;
        }
    }

    private void keepLocksOfChanges(int t) {
        dropLocks(t);
        for (int place = 0; place < inEffect[t]; place++) {
            int change = changeSlot(t, place);
            int lock = lockSlot(t, changedRecords[change]);
            if (isWrite[change]) {
                locks[lock] = X;
            } else if (locks[lock] == NO_LOCK) {
                locks[lock] = I;
            }
        }
    }

    private void noteChange(int t, int r, boolean ofWrite, int undoInt) {
        int change = changeSlot(t, inEffect[t]);
        changedRecords[change] = r;
        isWrite[change] = ofWrite;
        undoInts[change] = undoInt;
        inEffect[t]++;
        latestNumber++;
        if (firstNumbers[t] == NO_CHANGE) {
            firstNumbers[t] = latestNumber;
        }
    }

    private void undoDownTo(int t, int n) {
        for (int place = inEffect[t] - 1; place >= n; place--) {
            int change = changeSlot(t, place);
            undo(change);
        }
        inEffect[t] = n;
    }

    private void undo(int change) {
        int r = changedRecords[change];
        if (isWrite[change]) {
            values[r] = undoInts[change];
        } else {
            values[r] -= undoInts[change];
        }
    }

    private void end(int t) {
        dropLocks(t);
        states[t] = NOT_THERE;
        inEffect[t] = 0;
        firstNumbers[t] = NO_CHANGE;
    }
}
