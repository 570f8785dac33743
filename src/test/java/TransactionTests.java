/** Promises 2 and 7 to 12, sentence by sentence: the life of a transaction. */
public final class TransactionTests extends Cases {
    public static void main(String[] args) {
        start("TransactionTests");
        about("promise 2");
        beginsOpen();
        lowestFreeNumber();
        fourAreThere();
        beginWhenDown();
        about("promise 7");
        changesInEffect();
        noChangesToCount();
        about("promise 8");
        backToN();
        badN();
        backRefused();
        about("promise 9");
        commits();
        endRefused(true);
        about("promise 10");
        aborts();
        endRefused(false);
        about("promise 11");
        becomesPrepared();
        keepsX();
        keepsI();
        keepsNoOtherLock();
        noChangeInEffect();
        prepareRefused();
        about("promise 12");
        stateIs();
        noState();
        end();
    }

    private static void beginsOpen() {
        sentence("A new OPEN transaction");
        table().begin(0).state(0, OPEN).changes(0, 0).state(1, 0);
        sentence("A new OPEN transaction: without changes and locks of the one before");
        table().beginAll(2).write(0, 0, 1, OK).read(0, 1, OK).add(0, 2, 1, OK).commit(0, OK).begin(0)
            .changes(0, 0).back(0, 1, BAD).prepare(0, BAD).write(1, 0, 2, OK).write(1, 1, 2, OK)
            .write(1, 2, 2, OK).abort(0, OK).now(0, 2);
        table().begin(0).write(0, 0, 1, OK).prepare(0, OK).abort(0, OK).begin(0).state(0, OPEN).changes(0, 0);
    }

    private static void lowestFreeNumber() {
        sentence("the lowest free number");
        table().begin(0).begin(1).begin(2).begin(3);
        table().beginAll(4).commit(1, OK).begin(1);
        table().beginAll(4).abort(3, OK).abort(2, OK).abort(0, OK).begin(0).begin(2).begin(3);
        table().beginAll(3).commit(0, OK).begin(0).begin(3);
        sentence("the lowest free number: a PREPARED one is not free");
        table().beginAll(2).add(0, 0, 1, OK).prepare(0, OK).commit(1, OK).begin(1).begin(2)
            .crashAndRestart(0).begin(1).abort(0, OK).begin(0).begin(2);
        sentence("the lowest free number: a crash frees those of the OPEN ones");
        table().beginAll(4).add(2, 0, 1, OK).prepare(2, OK).crashAndRestart(0).begin(0).begin(1).begin(3);
    }

    private static void fourAreThere() {
        sentence("-1 if .. four are there");
        table().beginAll(4).begin(-1).begin(-1).state(0, OPEN).state(3, OPEN).commit(2, OK).begin(2).begin(-1);
        sentence("-1 if .. four are there: PREPARED ones count");
        Table x = table().beginAll(4);
        for (int t = 0; t < 4; t++) {
            x.add(t, 0, 1, OK).prepare(t, OK).begin(-1);
        }
        x.crashAndRestart(0).begin(-1).commit(3, OK).begin(3).begin(-1);
    }

    private static void beginWhenDown() {
        sentence("-1 if DOWN");
        table().crash(true).begin(-1).begin(-1).restart(0, true).state(0, 0).begin(0);
        table().begin(0).add(0, 0, 1, OK).prepare(0, OK).crash(true).begin(-1).restart(0, true)
            .state(1, 0).begin(1);
    }

    private static void changesInEffect() {
        sentence("How many changes of transaction t are in effect");
        table().beginAll(2).changes(0, 0).read(0, 5, OK).changes(0, 0).add(0, 0, 1, OK).changes(0, 1)
            .write(0, 1, 1, OK).changes(0, 2).changes(1, 0).add(1, 0, 1, OK).changes(1, 1).changes(0, 2)
            .back(0, 1, OK).changes(0, 1).back(0, 0, OK).changes(0, 0);
        sentence("How many changes of transaction t are in effect: ten");
        table().begin(0).addTimes(10, 0, 0, 1, OK).changes(0, 10).add(0, 0, 1, FULL).changes(0, 10);
        sentence("How many changes of transaction t are in effect: of a PREPARED one");
        table().begin(0).add(0, 0, 1, OK).add(0, 0, 1, OK).back(0, 1, OK).add(0, 1, 1, OK).prepare(0, OK)
            .changes(0, 2).crashAndRestart(0).changes(0, 2).crashAndRestart(0).changes(0, 2);
    }

    private static void noChangesToCount() {
        sentence("-1 if t is not there");
        table().changes(0, -1).changes(3, -1).begin(0).changes(1, -1).changes(0, 0).add(0, 0, 1, OK)
            .commit(0, OK).changes(0, -1).begin(0).add(0, 0, 1, OK).abort(0, OK).changes(0, -1)
            .begin(0).add(0, 0, 1, OK).crashAndRestart(0).changes(0, -1);
        sentence("-1 if t is not there: out of range");
        Table x = table().beginAll(4);
        for (int t : NO_TRANSACTION) {
            x.changes(t, -1);
        }
        sentence("-1 if .. the system is DOWN");
        table().beginAll(2).add(0, 0, 1, OK).add(1, 0, 1, OK).prepare(1, OK).crash(true)
            .changes(0, -1).changes(1, -1).changes(4, -1).restart(0, true).changes(0, -1).changes(1, 1);
    }

    private static void backToN() {
        sentence("Undoes the latest changes of t until n are in effect");
        Table x = table().begin(0);
        for (int i = 0; i < 10; i++) {
            x.write(0, i, 50 + i, OK);
        }
        for (int n = 9; n >= 0; n--) {
            x.back(0, n, OK).changes(0, n).now(n, 0).now(n == 0 ? 11 : n - 1, n == 0 ? 0 : 49 + n);
        }
        table().begin(0).write(0, 0, 1, OK).write(0, 0, 2, OK).write(0, 0, 3, OK).write(0, 1, 4, OK)
            .back(0, 1, OK).now(0, 1).now(1, 0).changes(0, 1).add(0, 0, 6, OK).now(0, 7).back(0, 1, OK).now(0, 1);
        sentence("Undoes the latest changes of t until n are in effect: as many as there are");
        table().begin(0).back(0, 0, OK).changes(0, 0).add(0, 0, 1, OK).back(0, 1, OK).now(0, 1).changes(0, 1)
            .addTimes(9, 0, 0, 1, OK).back(0, 10, OK).now(0, 10).changes(0, 10);
        sentence("Undoes the latest changes of t until n are in effect: none is left");
        table().begin(0).addTimes(10, 0, 0, 1, OK).back(0, 0, OK).now(0, 0).changes(0, 0).state(0, OPEN)
            .back(0, 0, OK).commit(0, OK).now(0, 0);
        sentence("Undoes the latest changes of t until n are in effect: those of t alone");
        table().beginAll(2).add(0, 0, 1, OK).add(1, 0, 10, OK).add(0, 0, 100, OK).write(1, 1, 5, OK)
            .back(0, 0, OK).now(0, 10).now(1, 5).changes(1, 2);
    }

    private static void badN() {
        sentence("BAD if n is below 0");
        table().begin(0).add(0, 0, 1, OK).back(0, -1, BAD).back(0, LEAST, BAD).changes(0, 1).now(0, 1)
            .back(0, 0, OK);
        sentence("BAD if n is .. above the number in effect");
        table().begin(0).back(0, 1, BAD).back(0, MOST, BAD).add(0, 0, 1, OK).back(0, 2, BAD).back(0, 1, OK)
            .addTimes(9, 0, 0, 1, OK).back(0, 11, BAD).back(0, MOST, BAD).changes(0, 10).now(0, 10);
        sentence("BAD if n is .. above the number in effect: undone ones do not count");
        table().begin(0).addTimes(5, 0, 0, 1, OK).back(0, 2, OK).back(0, 3, BAD).back(0, 5, BAD).changes(0, 2)
            .back(0, 2, OK).now(0, 2);
    }

    private static void backRefused() {
        sentence("BAD if t is outside 0..3");
        Table x = table().beginAll(4);
        for (int t : NO_TRANSACTION) {
            x.back(t, 0, BAD).back(t, -1, BAD);
        }
        x.back(0, 0, OK).back(3, 0, OK);
        sentence("DOWN");
        table().beginAll(2).add(0, 0, 1, OK).prepare(0, OK).crash(true).back(0, 0, DOWN).back(1, 0, DOWN)
            .back(3, 0, DOWN);
        sentence("NONE if t is not OPEN");
        table().back(0, 0, NONE).back(3, 0, NONE).begin(0).back(1, 0, NONE).add(0, 0, 1, OK).prepare(0, OK)
            .back(0, 0, NONE).back(0, 1, NONE).now(0, 1).changes(0, 1).commit(0, OK).back(0, 0, NONE)
            .begin(0).abort(0, OK).back(0, 0, NONE).begin(0).crashAndRestart(0).back(0, 0, NONE);
    }

    private static void commits() {
        sentence("Ends t; its changes are committed");
        table().beginAll(2).write(0, 0, 5, OK).add(0, 7, 6, OK).add(0, 7, 1, OK).back(0, 2, OK).commit(0, OK)
            .state(0, 0).now(0, 5).now(7, 6).write(1, 0, 8, OK).abort(1, OK).now(0, 5)
            .crashAndRestart(0).now(0, 5).now(7, 6);
        sentence("Ends t; its changes are committed: without a change, or with ten");
        table().begin(0).commit(0, OK).state(0, 0).allNow(0).begin(0).addTimes(10, 0, 3, 1, OK).commit(0, OK)
            .now(3, 10).begin(0).back(0, 0, OK).abort(0, OK).now(3, 10);
        sentence("it may be PREPARED");
        table().beginAll(2).write(0, 0, 5, OK).prepare(0, OK).commit(0, OK).state(0, 0)
            .write(1, 0, 6, OK).abort(1, OK).now(0, 5).begin(0);
        table().begin(0).write(0, 0, 5, OK).prepare(0, OK).crashAndRestart(9).commit(0, OK).state(0, 0)
            .now(0, 5).crashAndRestart(0).now(0, 5);
    }

    private static void aborts() {
        sentence("Undoes all changes of t and ends it");
        table().beginAll(2).write(0, 0, 5, OK).commit(0, OK).begin(0).add(0, 0, 3, OK).write(0, 0, 7, OK)
            .write(0, 4, 1, OK).add(0, 8, 1, OK).add(1, 8, 2, OK).abort(0, OK).state(0, 0)
            .now(0, 5).now(4, 0).now(8, 2).changes(1, 1).state(1, OPEN);
        sentence("Undoes all changes of t and ends it: none, ten, or none in effect");
        table().begin(0).abort(0, OK).state(0, 0).allNow(0).begin(0).addTimes(10, 0, 3, 1, OK).abort(0, OK)
            .state(0, 0).now(3, 0).begin(0).write(0, 3, 1, OK).back(0, 0, OK).abort(0, OK).now(3, 0);
        sentence("Undoes all changes of t and ends it: a PREPARED one");
        table().begin(0).write(0, 0, 5, OK).add(0, 1, 2, OK).prepare(0, OK).abort(0, OK)
            .now(0, 0).now(1, 0).state(0, 0);
        table().begin(0).write(0, 0, 5, OK).add(0, 1, 2, OK).prepare(0, OK).crashAndRestart(77)
            .begin(1).add(1, 1, 40, OK).abort(0, OK).now(0, 0).now(1, 40).state(0, 0).commit(1, OK)
            .crashAndRestart(0).now(0, 0).now(1, 40);
    }

    private static void endRefused(boolean commit) {
        sentence("BAD if t is outside 0..3");
        Table x = table().beginAll(4);
        for (int t : NO_TRANSACTION) {
            x.ending(commit, t, BAD);
        }
        x.ending(commit, 0, OK).ending(commit, 3, OK).state(1, OPEN).state(2, OPEN);
        sentence("DOWN");
        Table y = table().beginAll(2).add(0, 0, 1, OK).prepare(0, OK).crash(true);
        for (int t = 0; t < 4; t++) {
            y.ending(commit, t, DOWN);
        }
        y.restart(0, true).state(0, PREPARED).now(0, 1);
        sentence("NONE if it is not there");
        table().ending(commit, 0, NONE).ending(commit, 3, NONE).begin(0).ending(commit, 1, NONE)
            .ending(commit, 0, OK).ending(commit, 0, NONE).begin(0).crashAndRestart(0).ending(commit, 0, NONE)
            .begin(0).add(0, 0, 1, OK).prepare(0, OK).ending(commit, 0, OK).ending(commit, 0, NONE);
    }

    private static void becomesPrepared() {
        sentence("t becomes PREPARED");
        table().beginAll(2).write(0, 0, 4, OK).add(0, 0, 2, OK).prepare(0, OK).state(0, PREPARED)
            .now(0, 6).changes(0, 2).state(1, OPEN);
        sentence("t becomes PREPARED: with one change, or with ten");
        table().begin(0).add(0, 0, 0, OK).prepare(0, OK).state(0, PREPARED).begin(1)
            .addTimes(10, 1, 0, 1, OK).prepare(1, OK).state(1, PREPARED).changes(1, 10).now(0, 10);
    }

    private static void keepsX() {
        sentence("it keeps X on every record that a write of its changes in effect concerns");
        for (Access kind : Access.values()) {
            table().beginAll(2).write(0, 0, 1, OK).write(0, 11, 1, OK).prepare(0, OK)
                .access(kind, 1, 0, BUSY).access(kind, 1, 11, BUSY)
                .crashAndRestart(0).begin(1).access(kind, 1, 0, BUSY).access(kind, 1, 11, BUSY);
            table().beginAll(2).add(0, 0, 1, OK).write(0, 0, 8, OK).write(0, 1, 8, OK).add(0, 1, 1, OK)
                .prepare(0, OK).access(kind, 1, 0, BUSY).access(kind, 1, 1, BUSY);
            table().beginAll(2).read(0, 0, OK).write(0, 0, 8, OK).write(0, 0, 9, OK).back(0, 1, OK)
                .prepare(0, OK).access(kind, 1, 0, BUSY);
        }
        sentence("it keeps X on every record that a write of its changes in effect concerns: on ten");
        Table x = table().beginAll(2);
        for (int r = 1; r < 11; r++) {
            x.write(0, r, 1, OK);
        }
        x.prepare(0, OK);
        for (int r = 1; r < 11; r++) {
            x.read(1, r, BUSY).add(1, r, 1, BUSY);
        }
    }

    private static void keepsI() {
        sentence("I on every other that an add in effect concerns");
        table().beginAll(2).add(0, 2, 1, OK).add(0, 11, 1, OK).prepare(0, OK).read(1, 2, BUSY)
            .write(1, 2, 1, BUSY).add(1, 2, 1, OK).read(1, 11, BUSY).write(1, 11, 1, BUSY).add(1, 11, 1, OK)
            .crashAndRestart(0).begin(1).read(1, 2, BUSY).write(1, 2, 1, BUSY).add(1, 2, 1, OK);
        sentence("I on every other that an add in effect concerns: in the place of X");
        table().beginAll(2).read(0, 0, OK).add(0, 0, 1, OK).add(1, 0, 1, BUSY).prepare(0, OK)
            .read(1, 0, BUSY).add(1, 0, 2, OK).now(0, 3).abort(0, OK).now(0, 2);
        table().beginAll(2).add(0, 0, 1, OK).read(0, 0, OK).add(1, 0, 1, BUSY).prepare(0, OK)
            .read(1, 0, BUSY).add(1, 0, 2, OK);
        table().beginAll(2).add(0, 0, 1, OK).write(0, 0, 8, OK).back(0, 1, OK).add(1, 0, 1, BUSY)
            .prepare(0, OK).read(1, 0, BUSY).write(1, 0, 1, BUSY).add(1, 0, 2, OK).now(0, 3);
    }

    private static void keepsNoOtherLock() {
        sentence("and no other lock: what was only read");
        table().beginAll(2).read(0, 0, OK).read(0, 11, OK).add(0, 5, 1, OK).prepare(0, OK)
            .write(1, 0, 1, OK).write(1, 11, 1, OK);
        sentence("and no other lock: what only undone changes concern");
        table().beginAll(2).add(0, 3, 1, OK).write(0, 0, 1, OK).add(0, 1, 1, OK).read(0, 2, OK)
            .add(0, 2, 1, OK).back(0, 1, OK).prepare(0, OK).write(1, 0, 1, OK).write(1, 1, 1, OK)
            .write(1, 2, 1, OK).crashAndRestart(0).begin(1).write(1, 0, 1, OK).write(1, 1, 1, OK);
        sentence("and no other lock: those of other transactions stay");
        table().beginAll(3).read(1, 0, OK).write(1, 1, 1, OK).add(0, 2, 1, OK).prepare(0, OK)
            .write(2, 0, 1, BUSY).read(2, 1, BUSY);
    }

    private static void noChangeInEffect() {
        sentence("BAD if no change of t is in effect");
        table().begin(0).prepare(0, BAD).state(0, OPEN).read(0, 0, OK).prepare(0, BAD)
            .write(0, 0, 1, OK).back(0, 0, OK).prepare(0, BAD).state(0, OPEN).write(0, 0, 1, OK).prepare(0, OK);
        sentence("BAD if no change of t is in effect: those of others do not count");
        table().beginAll(2).add(0, 0, 1, OK).prepare(1, BAD).prepare(0, OK).prepare(1, BAD).state(1, OPEN);
    }

    private static void prepareRefused() {
        sentence("BAD if t is outside 0..3");
        Table x = table().beginAll(4).add(0, 0, 1, OK).add(3, 0, 1, OK);
        for (int t : NO_TRANSACTION) {
            x.prepare(t, BAD);
        }
        x.prepare(0, OK).prepare(3, OK);
        sentence("DOWN");
        table().beginAll(2).add(0, 0, 1, OK).prepare(0, OK).crash(true).prepare(0, DOWN).prepare(1, DOWN)
            .prepare(3, DOWN).restart(0, true).state(0, PREPARED);
        sentence("NONE if t is not OPEN");
        table().prepare(0, NONE).prepare(3, NONE).begin(0).prepare(1, NONE).add(0, 0, 1, OK).prepare(0, OK)
            .prepare(0, NONE).state(0, PREPARED).commit(0, OK).prepare(0, NONE).begin(0).add(0, 0, 1, OK)
            .abort(0, OK).prepare(0, NONE).begin(0).add(0, 0, 1, OK).crashAndRestart(0).prepare(0, NONE);
    }

    private static void stateIs() {
        sentence("OPEN or PREPARED");
        Table x = table().beginAll(4);
        for (int t = 0; t < 4; t++) {
            x.state(t, OPEN).add(t, 0, 1, OK).state(t, OPEN).prepare(t, OK).state(t, PREPARED);
        }
        x.crashAndRestart(0);
        for (int t = 0; t < 4; t++) {
            x.state(t, PREPARED);
        }
    }

    private static void noState() {
        sentence("0 if t is not there");
        table().state(0, 0).state(3, 0).begin(0).state(1, 0).commit(0, OK).state(0, 0).begin(0).abort(0, OK)
            .state(0, 0).begin(0).crashAndRestart(0).state(0, 0).begin(0).add(0, 0, 1, OK).prepare(0, OK)
            .commit(0, OK).state(0, 0).begin(0).add(0, 0, 1, OK).prepare(0, OK).abort(0, OK).state(0, 0);
        sentence("0 if t is not there: out of range");
        Table x = table().beginAll(4);
        for (int t : NO_TRANSACTION) {
            x.state(t, 0);
        }
        sentence("0 if .. the system is DOWN");
        table().beginAll(2).add(1, 0, 1, OK).prepare(1, OK).crash(true).state(0, 0).state(1, 0).state(4, 0)
            .restart(0, true).state(0, 0).state(1, PREPARED);
    }
}
