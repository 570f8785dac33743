/** The sentences of "What it is" and "Terms", but for those on refused calls. */
public final class TermsTests extends Cases {
    private static final int NO_LOCK = 0, S = 1, I = 2, X = 3;
    private static final String[] LOCK_NAMES = {"no lock", "S", "I", "X"};
    // What a transaction without a lock is answered on a record where another has that lock: read, write, add.
    private static final int[][] ANSWERS_BESIDE =
        {{OK, OK, OK}, {OK, BUSY, BUSY}, {BUSY, BUSY, OK}, {BUSY, BUSY, BUSY}};

    public static void main(String[] args) {
        start("TermsTests");
        about("what it is");
        fiveHundredAndTwelveCalls();
        about("terms");
        recordNumbers();
        valueAtFirst();
        arithmeticWraps();
        transactionNumbers();
        numbersOverAll();
        numbersOfAccepted();
        inEffectUntilUndone();
        undoingAnAdd();
        undoingAWrite();
        latestFirst();
        about("LOCKS");
        fittingLocks();
        locksTheTransactionHas();
        grantedTakesThePlace();
        locksStay();
        locksOfEachRecord();
        about("WHAT A CRASH KEEPS");
        openOnesAreUndone();
        committedStay();
        preparedStay();
        end();
    }

    private static void fiveHundredAndTwelveCalls() {
        sentence("An object is used for at most 512 calls");
        Table x = table().begin(0);
        for (int i = 0; i < 170; i++) {
            x.add(0, 11, 1, OK).commit(0, OK).begin(0);
        }
        x.now(11, 170);
        Table y = table().begin(0).write(0, 0, 6, OK).prepare(0, OK);
        for (int i = 0; i < 254; i++) {
            y.crashAndRestart(i);
        }
        y.now(0, 6);
        // What later calls answer is free, but rule 7 of LANGUAGE.md holds for them too: none may throw.
        RecoverableTable later = new RecoverableTable();
        for (int i = 0; i < 20000; i++) {
            later.begin();
            later.add(i % 4, i % 12, i);
            later.write((i / 3) % 4, i % 12, i);
            later.back(i % 4, i % 11);
            later.commit(i % 7);
        }
    }

    private static void recordNumbers() {
        sentence("RECORDS have numbers 0..11");
        for (Access kind : Access.values()) {
            Table x = table().beginAll(2);
            for (int r = 0; r < 10; r++) {
                x.access(kind, 0, r, OK);
            }
            x.access(kind, 1, 10, OK).access(kind, 1, 11, OK).access(kind, 1, -1, BAD).access(kind, 1, 12, BAD);
        }
    }

    private static void valueAtFirst() {
        sentence("an int value, 0 at first");
        table().allNow(0).begin(0).add(0, 0, 5, OK).now(0, 5).read(0, 11, OK).value(0);
        table().begin(0).write(0, 0, MOST, OK).write(0, 1, LEAST, OK).commit(0, OK).now(0, MOST).now(1, LEAST);
    }

    private static void arithmeticWraps() {
        sentence("arithmetic wraps: adding");
        table().begin(0).write(0, 11, MOST, OK).add(0, 11, 1, OK).now(11, LEAST).read(0, 11, OK).value(LEAST)
            .add(0, 11, -1, OK).now(11, MOST).add(0, 11, MOST, OK).now(11, -2)
            .add(0, 11, LEAST, OK).now(11, MOST - 1);
        table().begin(0).add(0, 0, LEAST, OK).add(0, 0, LEAST, OK).now(0, 0).commit(0, OK).now(0, 0);
        sentence("arithmetic wraps: undoing");
        table().begin(0).write(0, 0, MOST, OK).commit(0, OK).begin(0).add(0, 0, 1, OK).now(0, LEAST)
            .back(0, 0, OK).now(0, MOST).add(0, 0, LEAST, OK).now(0, -1).abort(0, OK).now(0, MOST);
        table().begin(0).add(0, 0, LEAST, OK).now(0, LEAST).back(0, 0, OK).now(0, 0);
        table().beginAll(2).add(0, 0, MOST, OK).add(1, 0, MOST, OK).now(0, -2).abort(0, OK).now(0, MOST);
        sentence("arithmetic wraps: over a crash");
        table().beginAll(2).add(0, 0, MOST, OK).prepare(0, OK).add(1, 0, MOST, OK).now(0, -2)
            .crashAndRestart(0).now(0, MOST).begin(1).add(1, 0, 2, OK).now(0, LEAST + 1).commit(1, OK)
            .abort(0, OK).now(0, 2);
    }

    private static void transactionNumbers() {
        sentence("TRANSACTIONS that are there have numbers 0..3");
        Table x = table().beginAll(4).begin(-1);
        for (int t = 0; t < 4; t++) {
            x.state(t, OPEN).add(t, t, 1, OK).back(t, 0, OK).add(t, t, 1, OK);
        }
        x.prepare(0, OK).commit(0, OK).prepare(1, OK).abort(1, OK).commit(2, OK).abort(3, OK);
        sentence("and are OPEN or PREPARED");
        table().begin(0).state(0, OPEN).add(0, 0, 1, OK).state(0, OPEN).prepare(0, OK).state(0, PREPARED);
    }

    private static void numbersOverAll() {
        sentence("Changes are numbered 1, 2, .. over all transactions");
        table().beginAll(4).addTimes(10, 0, 0, 1, OK).addTimes(10, 1, 1, 1, OK).addTimes(10, 2, 2, 1, OK)
            .add(3, 3, 1, OK).add(3, 3, 1, FULL).write(3, 3, 1, FULL).commit(1, OK).add(3, 3, 1, FULL)
            .commit(0, OK).addTimes(9, 3, 3, 1, OK).add(3, 3, 1, FULL);
        sentence("Changes are numbered 1, 2, ..: the number of an undone change is not given again");
        table().beginAll(2).add(0, 0, 1, OK).addTimes(10, 1, 1, 1, OK).back(1, 0, OK)
            .addTimes(10, 1, 1, 1, OK).abort(1, OK).begin(1).addTimes(10, 1, 1, 1, OK).back(1, 9, OK)
            .add(1, 1, 1, FULL);
        table().beginAll(2).add(0, 0, 1, OK).prepare(0, OK).addTimes(10, 1, 1, 1, OK).crashAndRestart(0)
            .begin(1).addTimes(10, 1, 1, 1, OK).crashAndRestart(0).begin(1).addTimes(10, 1, 1, 1, OK)
            .back(1, 0, OK).add(1, 1, 1, FULL);
    }

    private static void numbersOfAccepted() {
        sentence("in the order in which they are accepted: a refused change has no number");
        table().beginAll(3).add(0, 0, 1, OK).read(2, 9, OK).addTimes(40, 1, 9, 1, BUSY)
            .addTimes(40, 1, 12, 1, BAD).addTimes(40, 3, 1, 1, NONE).addTimes(10, 1, 1, 1, OK)
            .addTimes(40, 1, 1, 1, FULL).back(1, 0, OK).addTimes(10, 1, 1, 1, OK).back(1, 0, OK)
            .addTimes(10, 1, 1, 1, OK).back(1, 0, OK).add(1, 1, 1, FULL);
        table().begin(0).add(0, 0, 1, OK).prepare(0, OK).crash(true).addTimes(40, 1, 1, 1, DOWN)
            .restart(0, true).spendNumbers(29, 1).begin(1).add(1, 1, 1, OK).addTimes(40, 1, 1, 1, FULL)
            .commit(0, OK).addTimes(9, 1, 1, 1, OK);
        sentence("in the order in which they are accepted: a read has no number");
        table().begin(0).add(0, 0, 1, OK).begin(1).readTimes(40, 1, 5).commit(1, OK).spendNumbers(29, 1)
            .begin(1).add(1, 1, 1, OK).add(1, 1, 1, FULL);
    }

    private static void inEffectUntilUndone() {
        sentence("A change is IN EFFECT until it is undone");
        table().begin(0).add(0, 0, 1, OK).write(0, 1, 2, OK).changes(0, 2).now(0, 1).now(1, 2)
            .checkpoint(true).changes(0, 2).steal(0, true).changes(0, 2).back(0, 2, OK).changes(0, 2)
            .back(0, 1, OK).changes(0, 1).now(0, 1).now(1, 0).prepare(0, OK).changes(0, 1)
            .crashAndRestart(0).changes(0, 1).now(0, 1);
    }

    private static void undoingAnAdd() {
        sentence("Undoing a change of add subtracts what was added");
        table().beginAll(2).add(0, 0, 5, OK).add(1, 0, 7, OK).back(0, 0, OK).now(0, 7);
        table().beginAll(2).add(0, 0, 5, OK).add(1, 0, 7, OK).commit(1, OK).abort(0, OK).now(0, 7);
        table().beginAll(2).add(0, 0, 5, OK).add(1, 0, 7, OK).commit(1, OK).crashAndRestart(0).now(0, 7);
        table().beginAll(2).add(0, 0, -5, OK).prepare(0, OK).add(1, 0, 7, OK).abort(0, OK).now(0, 7);
        table().begin(0).add(0, 0, 5, OK).add(0, 0, 0, OK).back(0, 1, OK).now(0, 5);
    }

    private static void undoingAWrite() {
        sentence("undoing one of write gives the record the value that it had just before that change");
        table().begin(0).write(0, 0, 5, OK).back(0, 0, OK).now(0, 0);
        table().begin(0).write(0, 0, 5, OK).commit(0, OK).begin(0).write(0, 0, 6, OK).write(0, 0, 7, OK)
            .back(0, 1, OK).now(0, 6).abort(0, OK).now(0, 5);
        table().begin(0).add(0, 0, 5, OK).write(0, 0, 9, OK).back(0, 1, OK).now(0, 5);
        table().begin(0).write(0, 0, 5, OK).add(0, 0, 2, OK).write(0, 0, 9, OK).back(0, 2, OK).now(0, 7);
        table().begin(0).write(0, 0, 5, OK).write(0, 0, 5, OK).back(0, 1, OK).now(0, 5).back(0, 0, OK).now(0, 0);
        table().beginAll(2).add(1, 0, 3, OK).commit(1, OK).write(0, 0, LEAST, OK).crashAndRestart(0).now(0, 3);
    }

    private static void latestFirst() {
        sentence("Changes of one transaction are always undone latest first: by back");
        mixed().back(0, 4, OK).now(0, 30).back(0, 3, OK).now(0, 10).back(0, 2, OK).now(0, 9)
            .back(0, 1, OK).now(0, 5).back(0, 0, OK).now(0, 0);
        mixed().back(0, 1, OK).now(0, 5);
        mixed().back(0, 0, OK).now(0, 0);
        sentence("Changes of one transaction are always undone latest first: by abort");
        mixed().abort(0, OK).now(0, 0).now(1, 0);
        mixed().prepare(0, OK).abort(0, OK).now(0, 0).now(1, 0);
        mixed().prepare(0, OK).crashAndRestart(0).abort(0, OK).now(0, 0).now(1, 0);
        sentence("Changes of one transaction are always undone latest first: by a crash");
        mixed().crashAndRestart(0).now(0, 0).now(1, 0);
    }

    /** Transaction 0 has added 5, set 9, added 1 and set 30 in record 0, and then set record 1. */
    private static Table mixed() {
        return table().begin(0).add(0, 0, 5, OK).write(0, 0, 9, OK).add(0, 0, 1, OK).write(0, 0, 30, OK)
            .write(0, 1, 4, OK);
    }

    private static void fittingLocks() {
        for (int held = NO_LOCK; held <= X; held++) {
            sentence("S fits with S and I with I, nothing else fits: another has " + LOCK_NAMES[held]);
            for (Access kind : Access.values()) {
                int due = ANSWERS_BESIDE[held][kind.ordinal()];
                holding(held, 0, table().beginAll(2)).access(kind, 1, 6, due);
                holding(held, 1, table().beginAll(2)).access(kind, 0, 6, due);
            }
        }
        sentence("if no other transaction has one on that record that does not fit: four of a kind");
        table().beginAll(4).read(0, 0, OK).read(1, 0, OK).read(2, 0, OK).read(3, 0, OK).write(2, 0, 1, BUSY);
        table().beginAll(4).add(0, 0, 1, OK).add(1, 0, 1, OK).add(2, 0, 1, OK).add(3, 0, 1, OK).read(3, 0, BUSY);
    }

    private static void locksTheTransactionHas() {
        sentence("if the transaction has the other one of S and I already, X is needed instead");
        table().beginAll(2).read(0, 6, OK).read(1, 6, OK).add(0, 6, 1, BUSY).commit(1, OK).add(0, 6, 1, OK);
        table().beginAll(2).add(0, 6, 1, OK).add(1, 6, 1, OK).read(0, 6, BUSY).commit(1, OK).read(0, 6, OK);
        sentence("read needs S, add needs I: the same one again needs no more");
        table().beginAll(2).read(0, 6, OK).read(1, 6, OK).read(0, 6, OK).read(1, 6, OK);
        table().beginAll(2).add(0, 6, 1, OK).add(1, 6, 1, OK).add(0, 6, 1, OK).add(1, 6, 1, OK);
        sentence("write needs X: S or I does not do");
        table().beginAll(2).read(0, 6, OK).read(1, 6, OK).write(0, 6, 1, BUSY).commit(1, OK).write(0, 6, 1, OK);
        table().beginAll(2).add(0, 6, 1, OK).add(1, 6, 1, OK).write(0, 6, 1, BUSY).commit(1, OK).write(0, 6, 1, OK);
        sentence("X does for all");
        table().begin(0).write(0, 6, 1, OK).read(0, 6, OK).add(0, 6, 1, OK).write(0, 6, 2, OK).read(0, 6, OK);
    }

    private static void grantedTakesThePlace() {
        // By what a transaction has and by what it then calls (read, write, add): what it has after that.
        int[][] after = {{S, X, I}, {S, X, X}, {X, X, I}, {X, X, X}};
        for (int held = NO_LOCK; held <= X; held++) {
            for (Access kind : Access.values()) {
                int due = after[held][kind.ordinal()];
                sentence("A granted lock takes the place of the one before: " + LOCK_NAMES[held] + ", then " + kind);
                for (Access probe : Access.values()) {
                    holding(held, 0, table().beginAll(2)).access(kind, 0, 6, OK)
                        .access(probe, 1, 6, ANSWERS_BESIDE[due][probe.ordinal()]);
                }
            }
        }
    }

    private static void locksStay() {
        for (int held = S; held <= X; held++) {
            for (Access probe : Access.values()) {
                int due = ANSWERS_BESIDE[held][probe.ordinal()];
                sentence("Locks stay until the transaction ends, back keeps them: " + LOCK_NAMES[held]);
                holding(held, 0, table().beginAll(2)).back(0, 0, OK).access(probe, 1, 6, due);
                sentence("Locks stay until the transaction ends: not after commit, abort or a crash");
                holding(held, 0, table().beginAll(2)).commit(0, OK).access(probe, 1, 6, OK);
                holding(held, 0, table().beginAll(2)).abort(0, OK).access(probe, 1, 6, OK);
                holding(held, 0, table().beginAll(2)).crashAndRestart(0).begin(0).access(probe, 0, 6, OK);
                holding(held, 1, table().beginAll(2)).commit(0, OK).access(probe, 0, 6, NONE).begin(0)
                    .access(probe, 0, 6, due);
            }
        }
        sentence("Locks stay until the transaction ends: a prepared one ends by commit or abort");
        table().beginAll(2).write(0, 6, 1, OK).add(0, 7, 1, OK).prepare(0, OK).commit(0, OK)
            .write(1, 6, 1, OK).read(1, 7, OK);
        table().beginAll(2).write(0, 6, 1, OK).add(0, 7, 1, OK).prepare(0, OK).abort(0, OK)
            .write(1, 6, 1, OK).read(1, 7, OK);
    }

    private static void locksOfEachRecord() {
        sentence("On every record a transaction that is there has no lock, S, I or X");
        for (int t = 0; t < 4; t++) {
            for (int locked = 0; locked < 12; locked++) {
                Table x = table().beginAll(4).write(t, locked, 1, OK);
                for (int r = 0; r < 12; r++) {
                    x.read((t + 1) % 4, r, r == locked ? BUSY : OK);
                }
            }
        }
    }

    /** Gives transaction t that lock on record 6. */
    private static Table holding(int lock, int t, Table x) {
        return switch (lock) {
            case S -> x.read(t, 6, OK);
            case I -> x.add(t, 6, 0, OK);
            case X -> x.write(t, 6, 0, OK);
            default -> x;
        };
    }

    private static void openOnesAreUndone() {
        sentence("At a crash all OPEN transactions are undone");
        Table x = table().begin(0).write(0, 0, 9, OK).commit(0, OK).beginAll(4);
        for (int t = 0; t < 3; t++) {
            x.addTimes(8, t, 0, 1 << t, OK).write(t, 1 + t, 6, OK).add(t, 1 + t, 6, OK);
        }
        x.now(0, 65).crashAndRestart(0).now(0, 9).now(1, 0).now(2, 0).now(3, 0);
        sentence("all their changes in effect: those undone before are not undone twice");
        table().begin(0).add(0, 0, 5, OK).add(0, 0, 7, OK).write(0, 1, 3, OK).back(0, 1, OK)
            .crashAndRestart(0).now(0, 0).now(1, 0);
        sentence("and are there no more");
        Table y = table().beginAll(4).crashAndRestart(0);
        for (int t = 0; t < 4; t++) {
            y.state(t, 0).changes(t, -1).commit(t, NONE).abort(t, NONE);
        }
        y.begin(0).begin(1).begin(2).begin(3);
        sentence("At a crash all OPEN transactions are undone: there is none");
        table().crashAndRestart(0).allNow(0).begin(0);
    }

    private static void committedStay() {
        sentence("all committed changes .. stay");
        table().beginAll(2).write(0, 0, 5, OK).add(0, 11, 6, OK).add(1, 11, 7, OK).commit(0, OK)
            .crashAndRestart(0).now(0, 5).now(11, 6).crashAndRestart(0).now(0, 5).now(11, 6);
        sentence("all committed changes .. stay: those undone by back do not come again");
        table().begin(0).add(0, 0, 5, OK).add(0, 1, 7, OK).back(0, 1, OK).commit(0, OK)
            .crashAndRestart(0).now(0, 5).now(1, 0);
        sentence("all committed changes .. stay: those of an aborted one do not come again");
        table().begin(0).add(0, 0, 5, OK).write(0, 1, 7, OK).abort(0, OK).crashAndRestart(0).now(0, 0).now(1, 0);
    }

    private static void preparedStay() {
        sentence("the PREPARED transactions with their changes .. stay");
        table().begin(0).add(0, 0, 5, OK).add(0, 1, 7, OK).back(0, 1, OK).write(0, 2, 8, OK).prepare(0, OK)
            .crashAndRestart(0).state(0, PREPARED).changes(0, 2).now(0, 5).now(1, 0).now(2, 8)
            .crashAndRestart(0).state(0, PREPARED).changes(0, 2).now(0, 5).now(1, 0).now(2, 8)
            .abort(0, OK).now(0, 0).now(1, 0).now(2, 0);
        sentence("the PREPARED transactions .. stay: all four, full");
        Table x = table().beginAll(3);
        for (int t = 0; t < 3; t++) {
            x.addTimes(10, t, 0, 1 + t, OK).prepare(t, OK);
        }
        x.begin(3).add(3, 1, 4, OK).prepare(3, OK).crashAndRestart(0).now(0, 60).now(1, 4);
        for (int t = 0; t < 4; t++) {
            x.state(t, PREPARED).changes(t, t < 3 ? 10 : 1);
        }
        x.abort(1, OK).now(0, 40).commit(0, OK).abort(2, OK).now(0, 10).abort(3, OK).now(1, 0);
        sentence("the PREPARED transactions with their .. locks stay");
        table().beginAll(2).read(0, 0, OK).write(0, 1, 1, OK).add(0, 2, 1, OK).prepare(0, OK).read(1, 0, OK)
            .crashAndRestart(3).crashAndRestart(4).begin(1).write(1, 0, 1, OK).read(1, 1, BUSY)
            .add(1, 1, 1, BUSY).write(1, 1, 1, BUSY).read(1, 2, BUSY).write(1, 2, 1, BUSY).add(1, 2, 1, OK);
    }
}
