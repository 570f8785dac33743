/** For each promise of the document: ordinary inputs, the edges that it names, and wrong inputs. */
public final class PromiseTests {
    private static final int OK = Table.OK, DOWN = Table.DOWN, NONE = Table.NONE;
    private static final int BUSY = Table.BUSY, FULL = Table.FULL, BAD = Table.BAD;
    private static final int OPEN = Table.OPEN, PREPARED = Table.PREPARED;
    private static final int LEAST = Integer.MIN_VALUE, MOST = Integer.MAX_VALUE;
    private static final int[] NO_TRANSACTION = {-1, 4, 5, 12, LEAST, MOST};
    private static final int[] NO_RECORD = {-1, 12, 13, 48, LEAST, MOST};
    private static final int[] NO_PAGE = {-1, 3, 4, LEAST, MOST};

    private static final Checks CHECKS = new Checks("PromiseTests");

    public static void main(String[] args) {
        constants();
        newObject();
        begin();
        readAnswers();
        readLocks();
        value();
        writeAnswers();
        writeLocks();
        locksOfEveryTransaction();
        fullByChangesInEffect();
        fullByNumber();
        add();
        addLocks();
        changes();
        back();
        commit();
        abort();
        prepareAnswers();
        prepareLocks();
        state();
        now();
        steal();
        checkpoint();
        crash();
        restart();
        CHECKS.close();
    }

    private static Table table(String part) {
        CHECKS.part(part);
        return new Table(CHECKS);
    }

    private static void constants() {
        CHECKS.part("the constants");
        CHECKS.due("OK", RecoverableTable.OK, 0);
        CHECKS.due("DOWN", RecoverableTable.DOWN, 1);
        CHECKS.due("NONE", RecoverableTable.NONE, 2);
        CHECKS.due("BUSY", RecoverableTable.BUSY, 3);
        CHECKS.due("FULL", RecoverableTable.FULL, 4);
        CHECKS.due("BAD", RecoverableTable.BAD, 5);
        CHECKS.due("OPEN", RecoverableTable.OPEN, 1);
        CHECKS.due("PREPARED", RecoverableTable.PREPARED, 2);
    }

    private static void newObject() {
        Table x = table("promise 1, all is empty").allNow(0).value(0);
        for (int t = 0; t < 4; t++) {
            x.state(t, 0).changes(t, -1).commit(t, NONE);
        }
        table("promise 1, it is up").restart(0, false).checkpoint(true);
        Table one = table("promise 1, objects are apart");
        Table other = new Table(CHECKS);
        one.begin(0).write(0, 3, 7, OK);
        other.now(3, 0).state(0, 0).begin(0).write(0, 3, 8, OK);
        one.now(3, 7);
    }

    private static void begin() {
        table("promise 2, four at most").beginAll(4).begin(-1).begin(-1).state(3, OPEN);
        table("promise 2, the lowest free number").beginAll(4)
            .commit(1, OK).begin(1).abort(2, OK).abort(0, OK).begin(0).begin(2).begin(-1);
        table("promise 2, a prepared one keeps its number").begin(0).add(0, 0, 1, OK).prepare(0, OK)
            .begin(1).crashAndRestart(0).begin(1).begin(2).begin(3).begin(-1);
        table("promise 2, down").crash(true).begin(-1).restart(0, true).begin(0);
        table("promise 2, a number used again starts without changes and locks")
            .beginAll(2).write(0, 0, 1, OK).read(0, 1, OK).commit(0, OK).begin(0)
            .changes(0, 0).back(0, 1, BAD).write(1, 0, 2, OK).write(1, 1, 2, OK).read(0, 0, BUSY);
    }

    private static void readAnswers() {
        Table x = table("promise 3, arguments out of range").begin(0);
        refuseBadReads(x);
        x.crash(true);
        refuseBadReads(x);
        x.read(0, 0, DOWN).read(3, 11, DOWN).restart(0, true).read(0, 0, NONE);
        table("promise 3, ranges").beginAll(4).read(3, 11, OK).read(0, 0, OK);
        table("promise 3, not open").read(0, 0, NONE).begin(0).add(0, 0, 1, OK).prepare(0, OK)
            .read(0, 0, NONE).read(0, 5, NONE).read(1, 0, NONE).commit(0, OK).read(0, 0, NONE);
        table("promise 3, its own changes are seen").begin(0).write(0, 2, 6, OK).read(0, 2, OK).value(6)
            .add(0, 2, 1, OK).read(0, 2, OK).value(7).changes(0, 2);
    }

    private static void refuseBadReads(Table x) {
        for (int t : NO_TRANSACTION) {
            x.read(t, 0, BAD).read(t, 12, BAD);
        }
        for (int r : NO_RECORD) {
            x.read(0, r, BAD).read(2, r, BAD);
        }
    }

    private static void readLocks() {
        table("promise 3, S fits with S").beginAll(4)
            .read(0, 0, OK).read(1, 0, OK).read(2, 0, OK).read(3, 0, OK).read(0, 0, OK);
        table("promise 3, S does not fit with I or X").beginAll(2)
            .add(0, 0, 1, OK).read(1, 0, BUSY).write(0, 1, 1, OK).read(1, 1, BUSY).read(1, 2, OK);
        table("promise 3, S on I needs X").beginAll(3).add(0, 0, 1, OK).add(1, 0, 1, OK)
            .read(0, 0, BUSY).commit(1, OK).read(0, 0, OK).value(2)
            .add(1, 0, 1, NONE).add(2, 0, 1, BUSY).read(2, 0, BUSY);
        table("promise 3, a refused read takes no lock").beginAll(3).add(0, 0, 1, OK)
            .read(1, 0, BUSY).commit(0, OK).write(2, 0, 3, OK);
        table("promise 3, a refused read keeps the lock it had").beginAll(3).add(0, 0, 1, OK).add(1, 0, 1, OK)
            .read(0, 0, BUSY).add(2, 0, 1, OK).add(0, 0, 1, OK);
        table("promise 3, X stays X after a read").beginAll(2).write(0, 0, 1, OK).read(0, 0, OK)
            .read(1, 0, BUSY).add(1, 0, 1, BUSY).add(0, 0, 1, OK).read(1, 0, BUSY).add(1, 0, 1, BUSY);
    }

    private static void value() {
        table("promise 4, none yet").value(0).begin(0).value(0).write(0, 0, 5, OK).value(0)
            .read(0, 12, BAD).value(0).read(1, 0, NONE).value(0);
        table("promise 4, the latest read with OK").beginAll(2).write(0, 0, 5, OK).read(0, 0, OK).value(5)
            .value(5).write(0, 0, 6, OK).value(5).now(0, 6).value(5).read(1, 0, BUSY).value(5)
            .read(1, 1, OK).value(0).read(0, 0, OK).value(6).abort(0, OK).value(6);
        table("promise 4, down and after").begin(0).write(0, 0, LEAST, OK).read(0, 0, OK).crash(true)
            .value(LEAST).read(0, 0, DOWN).value(LEAST).restart(0, true).value(LEAST)
            .begin(0).read(0, 0, OK).value(0);
    }

    private static void writeAnswers() {
        Table x = table("promise 5, arguments out of range").begin(0);
        refuseBadWrites(x);
        x.crash(true);
        refuseBadWrites(x);
        x.write(0, 0, 1, DOWN).restart(0, true).write(0, 0, 1, NONE).allNow(0);
        table("promise 5, not open").write(0, 0, 1, NONE).begin(0).write(0, 0, 1, OK).prepare(0, OK)
            .write(0, 0, 2, NONE).write(1, 0, 2, NONE).now(0, 1).changes(0, 1);
        Table all = table("promise 5, every record and value").begin(0);
        int[] values = {1, -1, LEAST, MOST, 0, 12345, 7, 8, 9, 10};
        for (int r = 0; r < 10; r++) {
            all.write(0, r, values[r], OK).now(r, values[r]).changes(0, r + 1);
        }
        all.commit(0, OK).begin(0).write(0, 11, 5, OK).write(0, 10, 4, OK).now(11, 5).now(10, 4);
        table("promise 5, the same value is a change too").begin(0).write(0, 0, 0, OK).write(0, 0, 0, OK)
            .changes(0, 2).back(0, 1, OK).changes(0, 1);
    }

    private static void refuseBadWrites(Table x) {
        for (int t : NO_TRANSACTION) {
            x.write(t, 0, 1, BAD).write(t, -1, 1, BAD);
        }
        for (int r : NO_RECORD) {
            x.write(0, r, 1, BAD).write(1, r, 1, BAD);
        }
    }

    private static void writeLocks() {
        table("promise 5, X fits with nothing").beginAll(4).read(0, 0, OK).add(0, 1, 1, OK).write(0, 2, 1, OK)
            .write(1, 0, 9, BUSY).write(1, 1, 9, BUSY).write(1, 2, 9, BUSY)
            .now(0, 0).now(1, 1).now(2, 1).changes(1, 0);
        table("promise 5, X in the place of S").beginAll(3).read(0, 0, OK).read(1, 0, OK).write(0, 0, 3, BUSY)
            .read(2, 0, OK).commit(1, OK).commit(2, OK).write(0, 0, 3, OK).begin(1).read(1, 0, BUSY);
        table("promise 5, X in the place of I").beginAll(2).add(0, 0, 2, OK).write(0, 0, 3, OK)
            .add(1, 0, 1, BUSY).back(0, 1, OK).now(0, 2).add(1, 0, 1, BUSY).back(0, 0, OK).add(1, 0, 1, BUSY)
            .abort(0, OK).add(1, 0, 1, OK);
        table("promise 5, a refused write takes no lock").beginAll(3).read(0, 0, OK).write(1, 0, 3, BUSY)
            .read(2, 0, OK);
    }

    private static void locksOfEveryTransaction() {
        for (int t = 0; t < 4; t++) {
            for (int r = 0; r < 12; r++) {
                int other = (t + 1 + r % 3) % 4;
                table("promises 3, 5 and 6, transaction " + t + " against " + other).beginAll(4)
                    .write(t, r, 6, OK).read(other, r, BUSY).write(other, r, 7, BUSY).add(other, r, 1, BUSY)
                    .add(other, (r + 1) % 12, 1, OK).commit(t, OK).write(other, r, 8, OK).now(r, 8)
                    .back(other, 1, OK).prepare(other, OK).begin(t).write(t, r, 9, OK).now(r, 9);
            }
        }
    }

    private static void fullByChangesInEffect() {
        Table x = table("promise 5, ten changes in effect").begin(0);
        for (int i = 0; i < 10; i++) {
            x.write(0, i, i, OK);
        }
        x.write(0, 0, 9, FULL).add(0, 0, 9, FULL).now(0, 0).changes(0, 10)
            .back(0, 9, OK).add(0, 11, 1, OK).write(0, 11, 1, FULL).changes(0, 10).now(11, 1);
        table("promise 5, FULL takes no lock").beginAll(3).addTimes(10, 0, 0, 1, OK).write(0, 1, 1, FULL)
            .write(1, 1, 2, OK).add(0, 2, 1, FULL).read(1, 2, OK).write(0, 0, 1, FULL).add(2, 0, 1, OK);
        table("promise 5, BUSY comes before FULL").beginAll(2).addTimes(10, 0, 0, 1, OK).read(1, 1, OK)
            .write(0, 1, 1, BUSY).add(0, 1, 1, BUSY).write(0, 2, 1, FULL).write(0, 12, 1, BAD);
        table("promise 5, the ten are for each transaction").beginAll(2).addTimes(10, 0, 0, 1, OK)
            .addTimes(10, 1, 0, 1, OK).add(1, 0, 1, FULL).now(0, 20);
        table("promise 5, a read of a full transaction").begin(0).addTimes(10, 0, 0, 1, OK)
            .read(0, 1, OK).read(0, 0, OK).value(10);
    }

    private static void fullByNumber() {
        table("promise 5, 30 above the least").beginAll(4).addTimes(10, 0, 0, 1, OK).addTimes(10, 1, 1, 1, OK)
            .addTimes(10, 2, 2, 1, OK).add(3, 3, 1, OK).add(3, 3, 1, FULL).write(3, 3, 1, FULL)
            .commit(1, OK).add(3, 3, 1, FULL).commit(0, OK).addTimes(9, 3, 3, 1, OK).add(3, 3, 1, FULL);
        table("promise 5, its own first change counts").begin(0).addTimes(10, 0, 0, 1, OK).back(0, 0, OK)
            .addTimes(10, 0, 0, 1, OK).back(0, 0, OK).addTimes(10, 0, 0, 1, OK).back(0, 0, OK)
            .write(0, 0, 1, OK).changes(0, 1).write(0, 0, 1, FULL).back(0, 0, OK).add(0, 1, 1, FULL)
            .abort(0, OK).begin(0).add(0, 1, 1, OK);
        table("promise 5, one without changes does not count").beginAll(2).read(1, 5, OK)
            .addTimes(10, 0, 0, 1, OK).commit(0, OK).begin(0).addTimes(10, 0, 0, 1, OK).commit(0, OK)
            .begin(0).addTimes(10, 0, 0, 1, OK).commit(0, OK).begin(0).addTimes(10, 0, 0, 1, OK)
            .addTimes(10, 1, 1, 1, OK).now(0, 40).now(1, 10);
        table("promise 5, a refused change has no number").beginAll(3).add(0, 0, 1, OK).read(2, 9, OK)
            .addTimes(40, 1, 9, 1, BUSY).addTimes(10, 1, 1, 1, OK).addTimes(40, 1, 1, 1, FULL)
            .back(1, 0, OK).addTimes(10, 1, 1, 1, OK).back(1, 0, OK).addTimes(10, 1, 1, 1, OK)
            .back(1, 0, OK).add(1, 1, 1, FULL);
        for (int oldest = 0; oldest < 4; oldest++) {
            int other = (oldest + 1) % 4;
            table("promise 5, the least is of transaction " + oldest).beginAll(4).add(oldest, 0, 1, OK)
                .addTimes(10, other, 1, 1, OK).back(other, 0, OK).addTimes(10, other, 1, 1, OK)
                .back(other, 0, OK).addTimes(10, other, 1, 1, OK).back(other, 0, OK)
                .add(other, 1, 1, FULL).abort(oldest, OK).add(other, 1, 1, OK);
        }
        table("promise 5, a prepared one counts over a crash, by an undone change too").beginAll(2)
            .add(0, 0, 1, OK).back(0, 0, OK).write(0, 1, 5, OK).prepare(0, OK)
            .addTimes(10, 1, 2, 1, OK).crashAndRestart(5).begin(1).addTimes(10, 1, 2, 1, OK).commit(1, OK)
            .begin(1).addTimes(9, 1, 2, 1, OK).add(1, 2, 1, FULL).crashAndRestart(6).begin(1)
            .add(1, 2, 1, FULL).abort(0, OK).add(1, 2, 1, OK).now(1, 0).now(2, 11);
        table("promise 5, those lost by a crash do not count").beginAll(2).add(0, 0, 1, OK)
            .addTimes(10, 1, 1, 1, OK).back(1, 0, OK).addTimes(10, 1, 1, 1, OK).crashAndRestart(0)
            .beginAll(2).addTimes(10, 0, 0, 1, OK).addTimes(10, 1, 0, 1, OK).now(0, 20);
    }

    private static void add() {
        Table x = table("promise 6, arguments out of range").begin(0);
        refuseBadAdds(x);
        x.crash(true);
        refuseBadAdds(x);
        x.add(0, 0, 1, DOWN).restart(0, true).add(0, 0, 1, NONE).allNow(0);
        table("promise 6, not open").add(0, 0, 1, NONE).begin(0).add(0, 0, 1, OK).prepare(0, OK)
            .add(0, 0, 2, NONE).add(1, 0, 2, NONE).now(0, 1).changes(0, 1);
        table("promise 6, it wraps").begin(0).write(0, 11, MOST, OK).add(0, 11, 1, OK).now(11, LEAST)
            .add(0, 11, -1, OK).now(11, MOST).add(0, 11, LEAST, OK).now(11, -1)
            .back(0, 3, OK).now(11, MOST).back(0, 2, OK).now(11, LEAST).back(0, 1, OK).now(11, MOST);
        table("promise 6, adding 0 is a change").begin(0).addTimes(10, 0, 0, 0, OK).changes(0, 10)
            .add(0, 0, 0, FULL);
        table("promise 6, several add to one record").beginAll(4).add(0, 4, 1, OK).add(1, 4, 20, OK)
            .add(2, 4, 300, OK).add(3, 4, -4000, OK).now(4, -3679).abort(1, OK).now(4, -3699)
            .commit(0, OK).back(3, 0, OK).now(4, 301).abort(2, OK).now(4, 1);
    }

    private static void refuseBadAdds(Table x) {
        for (int t : NO_TRANSACTION) {
            x.add(t, 0, 1, BAD).add(t, 12, 1, BAD);
        }
        for (int r : NO_RECORD) {
            x.add(0, r, 1, BAD).add(3, r, 1, BAD);
        }
    }

    private static void addLocks() {
        table("promise 6, I does not fit with S or X").beginAll(2).read(0, 0, OK).write(0, 1, 1, OK)
            .add(1, 0, 1, BUSY).add(1, 1, 1, BUSY).add(1, 2, 1, OK);
        table("promise 6, I on S needs X").beginAll(3).read(0, 0, OK).read(1, 0, OK).add(0, 0, 1, BUSY)
            .read(2, 0, OK).commit(2, OK).commit(1, OK).add(0, 0, 1, OK).begin(1).add(1, 0, 1, BUSY)
            .read(1, 0, BUSY).now(0, 1);
        table("promise 6, X stays X after an add").beginAll(2).write(0, 0, 1, OK).add(0, 0, 1, OK)
            .add(1, 0, 1, BUSY).read(1, 0, BUSY);
        table("promise 6, a refused add takes no lock").beginAll(3).read(0, 0, OK).add(1, 0, 1, BUSY)
            .read(2, 0, OK);
    }

    private static void changes() {
        Table x = table("promise 7, how many are in effect").changes(0, -1).begin(0).changes(0, 0);
        x.add(0, 0, 1, OK).changes(0, 1).write(0, 1, 1, OK).changes(0, 2).read(0, 2, OK).changes(0, 2)
            .back(0, 1, OK).changes(0, 1).changes(1, -1).prepare(0, OK).changes(0, 1)
            .crash(true).changes(0, -1).changes(1, -1).restart(0, true).changes(0, 1)
            .commit(0, OK).changes(0, -1);
        for (int t : NO_TRANSACTION) {
            x.changes(t, -1);
        }
    }

    private static void back() {
        Table x = table("promise 8, refusals").begin(0).add(0, 0, 1, OK);
        for (int t : NO_TRANSACTION) {
            x.back(t, 0, BAD).back(t, -1, BAD);
        }
        x.back(1, 0, NONE).back(1, -1, NONE).back(0, -1, BAD).back(0, 2, BAD).back(0, LEAST, BAD)
            .back(0, MOST, BAD).changes(0, 1).now(0, 1).prepare(0, OK).back(0, 0, NONE).back(0, 9, NONE)
            .now(0, 1).crash(true).back(0, 0, DOWN).back(0, -1, DOWN).back(1, 0, DOWN).back(4, 0, BAD)
            .restart(0, true).back(0, 0, NONE).back(1, 0, NONE);
        table("promise 8, nothing to undo").begin(0).back(0, 0, OK).add(0, 0, 1, OK).back(0, 1, OK).now(0, 1);
        table("promise 8, latest first").begin(0).add(0, 0, 5, OK).write(0, 0, 9, OK).add(0, 0, 1, OK)
            .write(0, 0, 30, OK).write(0, 1, 4, OK).back(0, 4, OK).now(1, 0).now(0, 30)
            .back(0, 2, OK).now(0, 9).back(0, 1, OK).now(0, 5).back(0, 0, OK).now(0, 0);
        table("promise 8, several at once").begin(0).write(0, 0, 1, OK).write(0, 0, 2, OK).write(0, 0, 3, OK)
            .write(0, 1, 4, OK).back(0, 1, OK).now(0, 1).now(1, 0).changes(0, 1).add(0, 0, 6, OK).now(0, 7)
            .back(0, 1, OK).now(0, 1);
        table("promise 8, an add is subtracted, others' adds stay").beginAll(2).add(0, 0, 1, OK)
            .add(1, 0, 10, OK).add(0, 0, 100, OK).back(0, 0, OK).now(0, 10).commit(0, OK).now(0, 10);
        table("promise 8, locks stay").beginAll(2).write(0, 0, 1, OK).add(0, 1, 1, OK).back(0, 0, OK)
            .read(1, 0, BUSY).read(1, 1, BUSY).add(1, 1, 1, OK).commit(0, OK).read(1, 0, OK);
    }

    private static void commit() {
        Table x = table("promise 9, refusals");
        refuseBadEnds(x);
        x.commit(0, NONE).begin(0).commit(1, NONE).commit(0, OK).commit(0, NONE).begin(0).crash(true)
            .commit(0, DOWN).commit(3, DOWN);
        refuseBadEnds(x);
        x.restart(0, true).commit(0, NONE);
        table("promise 9, its changes stay").beginAll(2).write(0, 0, 5, OK).add(0, 7, 6, OK)
            .add(0, 7, 1, OK).back(0, 2, OK).commit(0, OK).state(0, 0).now(0, 5).now(7, 6)
            .crashAndRestart(0).now(0, 5).now(7, 6);
        table("promise 9, its locks go").beginAll(2).write(0, 0, 5, OK).add(0, 1, 5, OK).read(0, 2, OK)
            .commit(0, OK).write(1, 0, 6, OK).write(1, 1, 6, OK).write(1, 2, 6, OK);
        table("promise 9, a prepared one").beginAll(2).write(0, 0, 5, OK).prepare(0, OK).commit(0, OK)
            .state(0, 0).write(1, 0, 6, OK).abort(1, OK).now(0, 5).begin(0);
        table("promise 9, a prepared one after a crash").begin(0).write(0, 0, 5, OK).prepare(0, OK)
            .crashAndRestart(9).commit(0, OK).state(0, 0).now(0, 5).crashAndRestart(0).now(0, 5);
    }

    private static void abort() {
        Table x = table("promise 10, refusals");
        refuseBadEnds(x);
        x.abort(0, NONE).begin(0).abort(1, NONE).abort(0, OK).abort(0, NONE).begin(0).crash(true)
            .abort(0, DOWN).abort(3, DOWN);
        refuseBadEnds(x);
        x.restart(0, true).abort(0, NONE);
        table("promise 10, its changes are undone").beginAll(2).write(0, 0, 5, OK).commit(0, OK).begin(0)
            .add(0, 0, 3, OK).write(0, 0, 7, OK).write(0, 4, 1, OK).add(0, 8, 1, OK).add(1, 8, 2, OK)
            .abort(0, OK).state(0, 0).now(0, 5).now(4, 0).now(8, 2).changes(1, 1);
        table("promise 10, its locks go").beginAll(2).write(0, 0, 5, OK).add(0, 1, 5, OK).read(0, 2, OK)
            .abort(0, OK).write(1, 0, 6, OK).write(1, 1, 6, OK).write(1, 2, 6, OK);
        table("promise 10, a prepared one").begin(0).write(0, 0, 5, OK).add(0, 1, 2, OK).prepare(0, OK)
            .abort(0, OK).now(0, 0).now(1, 0).state(0, 0);
        table("promise 10, a prepared one after a crash, while others add").begin(0).write(0, 0, 5, OK)
            .add(0, 1, 2, OK).prepare(0, OK).crashAndRestart(77).begin(1).add(1, 1, 40, OK).abort(0, OK)
            .now(0, 0).now(1, 40).commit(1, OK).now(1, 40);
    }

    private static void refuseBadEnds(Table x) {
        for (int t : NO_TRANSACTION) {
            x.commit(t, BAD).abort(t, BAD).prepare(t, BAD);
        }
    }

    private static void prepareAnswers() {
        Table x = table("promise 11, refusals");
        refuseBadEnds(x);
        x.prepare(0, NONE).begin(0).prepare(0, BAD).read(0, 0, OK).prepare(0, BAD).add(0, 0, 1, OK)
            .back(0, 0, OK).prepare(0, BAD).state(0, OPEN).add(0, 0, 1, OK).prepare(0, OK)
            .prepare(0, NONE).prepare(1, NONE).state(0, PREPARED).crash(true).prepare(0, DOWN)
            .prepare(1, DOWN).prepare(4, BAD).restart(0, true).prepare(0, NONE).prepare(1, NONE);
        table("promise 11, a refused one keeps its locks").beginAll(2).read(0, 0, OK).write(0, 1, 1, OK)
            .back(0, 0, OK).prepare(0, BAD).write(1, 0, 1, BUSY).read(1, 1, BUSY).now(1, 0);
        table("promise 11, nothing but locks changes").begin(0).write(0, 0, 4, OK).add(0, 0, 2, OK)
            .prepare(0, OK).now(0, 6).changes(0, 2);
    }

    private static void prepareLocks() {
        table("promise 11, S goes, X and I stay").beginAll(2).read(0, 0, OK).write(0, 1, 1, OK)
            .add(0, 2, 1, OK).prepare(0, OK).write(1, 0, 1, OK).read(1, 1, BUSY).add(1, 1, 1, BUSY)
            .read(1, 2, BUSY).write(1, 2, 1, BUSY).add(1, 2, 1, OK);
        table("promise 11, locks of undone changes go").beginAll(2).add(0, 3, 1, OK).write(0, 0, 1, OK)
            .add(0, 1, 1, OK).back(0, 1, OK).prepare(0, OK).write(1, 0, 1, OK).write(1, 1, 1, OK);
        table("promise 11, X for read and add becomes I").beginAll(2).read(0, 0, OK).add(0, 0, 1, OK)
            .add(1, 0, 1, BUSY).prepare(0, OK).add(1, 0, 2, OK).now(0, 3).abort(0, OK).now(0, 2);
        table("promise 11, X of an undone write becomes I").beginAll(2).add(0, 0, 1, OK).write(0, 0, 8, OK)
            .back(0, 1, OK).prepare(0, OK).read(1, 0, BUSY).add(1, 0, 2, OK);
        table("promise 11, X whether the add comes before or after").beginAll(2).add(0, 0, 1, OK)
            .write(0, 0, 8, OK).write(0, 1, 8, OK).add(0, 1, 1, OK).prepare(0, OK)
            .add(1, 0, 2, BUSY).add(1, 1, 2, BUSY);
        table("promise 11, the locks stay over a crash").beginAll(2).read(0, 0, OK).write(0, 1, 1, OK)
            .add(0, 2, 1, OK).prepare(0, OK).read(1, 0, OK).crashAndRestart(3).crashAndRestart(4).begin(1)
            .write(1, 0, 1, OK).read(1, 1, BUSY).write(1, 1, 1, BUSY).read(1, 2, BUSY).add(1, 2, 1, OK);
    }

    private static void state() {
        Table x = table("promise 12, what it is").state(0, 0).beginAll(4).state(0, OPEN).state(3, OPEN)
            .commit(3, OK).state(3, 0).add(1, 0, 1, OK).prepare(1, OK).state(1, PREPARED).state(0, OPEN)
            .abort(0, OK).state(0, 0).crash(true).state(1, 0).state(2, 0).restart(0, true)
            .state(0, 0).state(1, PREPARED).state(2, 0).commit(1, OK).state(1, 0);
        for (int t : NO_TRANSACTION) {
            x.state(t, 0);
        }
    }

    private static void now() {
        Table x = table("promise 13, changes in effect included").begin(0);
        for (int r = 2; r < 12; r++) {
            x.write(0, r, r + 100, OK);
        }
        x.commit(0, OK).begin(0).write(0, 0, 100, OK).add(0, 1, 101, OK);
        for (int r = 0; r < 12; r++) {
            x.now(r, r + 100);
        }
        for (int r : NO_RECORD) {
            x.now(r, 0);
        }
        x.crash(true).allNow(0).now(12, 0).restart(0, true).now(0, 0).now(1, 0);
        for (int r = 2; r < 12; r++) {
            x.now(r, r + 100);
        }
    }

    private static void steal() {
        Table x = table("promise 14, its answer").steal(0, true).steal(1, true).steal(2, true).steal(2, true);
        for (int p : NO_PAGE) {
            x.steal(p, false);
        }
        x.crash(true).steal(0, false).steal(2, false).steal(3, false).restart(0, true).steal(0, true);
        table("promise 14, a stolen page is undone, and one not stolen is kept").beginAll(2)
            .write(0, 0, 1, OK).write(0, 4, 2, OK).add(0, 8, 3, OK).write(1, 11, 4, OK).write(1, 7, 5, OK)
            .steal(0, true).steal(1, true).steal(2, true).add(1, 8, 6, OK).commit(1, OK)
            .crashAndRestart(1).now(0, 0).now(4, 0).now(8, 6).now(11, 4).now(7, 5);
        table("promise 14, a page stolen before and after back").begin(0).write(0, 0, 1, OK).steal(0, true)
            .write(0, 0, 2, OK).back(0, 1, OK).steal(0, true).now(0, 1).prepare(0, OK).crashAndRestart(2)
            .now(0, 1).steal(0, true).abort(0, OK).crashAndRestart(3).now(0, 0);
    }

    private static void checkpoint() {
        table("promise 15, its answer").checkpoint(true).checkpoint(true).crash(true).checkpoint(false)
            .restart(0, true).checkpoint(true);
        table("promise 15, before and after it").beginAll(3).write(0, 0, 1, OK).add(1, 1, 2, OK)
            .add(2, 2, 3, OK).prepare(2, OK).checkpoint(true).add(0, 5, 1, OK).add(1, 1, 2, OK)
            .commit(1, OK).state(0, OPEN).crashAndRestart(12).now(0, 0).now(1, 4).now(2, 3).now(5, 0)
            .state(2, PREPARED).changes(2, 1);
    }

    private static void crash() {
        table("promise 16, its answer").crash(true).crash(false).crash(false).restart(0, true).crash(true);
        table("promise 16, what it keeps").beginAll(4).write(0, 0, 1, OK).commit(0, OK).begin(0)
            .write(0, 0, 2, OK).add(0, 1, 3, OK).add(1, 1, 4, OK).prepare(1, OK).add(2, 1, 5, OK)
            .commit(2, OK).add(3, 1, 6, OK).back(3, 0, OK).read(0, 9, OK).crash(true).restart(0, true)
            .now(0, 1).now(1, 9).state(0, 0).state(1, PREPARED).state(2, 0).state(3, 0).changes(1, 1)
            .begin(0).write(0, 0, 7, OK).write(0, 9, 7, OK).write(0, 1, 7, BUSY);
        table("promise 16, all changes of an open one in their order").begin(0).add(0, 0, 5, OK)
            .write(0, 0, 9, OK).add(0, 0, 1, OK).write(0, 0, 30, OK).crashAndRestart(0).now(0, 0);
        table("promise 16, what was undone by back stays undone").begin(0).add(0, 0, 5, OK).add(0, 1, 7, OK)
            .back(0, 1, OK).prepare(0, OK).crashAndRestart(0).now(0, 5).now(1, 0).changes(0, 1)
            .abort(0, OK).now(0, 0).now(1, 0);
        table("promise 16, the table stays usable").begin(0).addTimes(10, 0, 0, 1, OK).crashAndRestart(0)
            .begin(0).changes(0, 0).addTimes(10, 0, 0, 1, OK).commit(0, OK).crashAndRestart(0).now(0, 10);
    }

    private static void restart() {
        table("promise 17, its answer").restart(0, false).restart(LEAST, false).crash(true).restart(0, true)
            .restart(0, false).crash(true).restart(-1, true).restart(-1, false);
        table("promise 17, refused it changes nothing").begin(0).write(0, 0, 1, OK).restart(5, false)
            .state(0, OPEN).now(0, 1).changes(0, 1);
        int[] moments = {0, 1, 2, 3, 127, 128, 131, 16514, 1605763, -1, LEAST, MOST, 1 << 21, 0x7f7f7f};
        for (int p : moments) {
            table("promise 17, p is " + p).beginAll(4).write(0, 0, 1, OK).steal(0, true)
                .write(1, 4, 2, OK).add(1, 8, 3, OK).prepare(1, OK).checkpoint(true).add(2, 8, 10, OK)
                .commit(2, OK).add(3, 8, 100, OK).steal(2, true).crash(true).restart(p, true)
                .now(0, 0).now(4, 2).now(8, 13).state(0, 0).state(1, PREPARED).state(2, 0).state(3, 0)
                .changes(1, 2).crash(true).restart(p, true).now(0, 0).now(4, 2).now(8, 13)
                .state(1, PREPARED).abort(1, OK).crash(true).restart(p, true).now(4, 0).now(8, 10);
        }
    }
}
