/** A RecoverableTable whose every call is written together with the answer that is due. */
final class Table {
    static final int OK = 0, DOWN = 1, NONE = 2, BUSY = 3, FULL = 4, BAD = 5;
    static final int OPEN = 1, PREPARED = 2;

    private final RecoverableTable table = new RecoverableTable();
    private final Checks checks;

    Table(Checks checks) {
        this.checks = checks;
    }

    Table begin(int want) {
        checks.due("begin()", table.begin(), want);
        return this;
    }

    Table read(int t, int r, int want) {
        checks.due("read(" + t + ", " + r + ")", table.read(t, r), want);
        return this;
    }

    Table value(int want) {
        checks.due("value()", table.value(), want);
        return this;
    }

    Table write(int t, int r, int v, int want) {
        checks.due("write(" + t + ", " + r + ", " + v + ")", table.write(t, r, v), want);
        return this;
    }

    Table add(int t, int r, int d, int want) {
        checks.due("add(" + t + ", " + r + ", " + d + ")", table.add(t, r, d), want);
        return this;
    }

    Table changes(int t, int want) {
        checks.due("changes(" + t + ")", table.changes(t), want);
        return this;
    }

    Table back(int t, int n, int want) {
        checks.due("back(" + t + ", " + n + ")", table.back(t, n), want);
        return this;
    }

    Table commit(int t, int want) {
        checks.due("commit(" + t + ")", table.commit(t), want);
        return this;
    }

    Table abort(int t, int want) {
        checks.due("abort(" + t + ")", table.abort(t), want);
        return this;
    }

    Table ending(boolean byCommit, int t, int want) {
        return byCommit ? commit(t, want) : abort(t, want);
    }

    Table prepare(int t, int want) {
        checks.due("prepare(" + t + ")", table.prepare(t), want);
        return this;
    }

    Table state(int t, int want) {
        checks.due("state(" + t + ")", table.state(t), want);
        return this;
    }

    Table now(int r, int want) {
        checks.due("now(" + r + ")", table.now(r), want);
        return this;
    }

    Table steal(int p, boolean want) {
        checks.due("steal(" + p + ")", table.steal(p), want);
        return this;
    }

    Table checkpoint(boolean want) {
        checks.due("checkpoint()", table.checkpoint(), want);
        return this;
    }

    Table crash(boolean want) {
        checks.due("crash()", table.crash(), want);
        return this;
    }

    Table restart(int p, boolean want) {
        checks.due("restart(" + p + ")", table.restart(p), want);
        return this;
    }

    /** The call of that kind, with 1 as what is written or added. */
    Table access(Access kind, int t, int r, int want) {
        return switch (kind) {
            case READ -> read(t, r, want);
            case WRITE -> write(t, r, 1, want);
            case ADD -> add(t, r, 1, want);
        };
    }

    /** Begins the transactions 0 to count - 1 of a new table. */
    Table beginAll(int count) {
        for (int t = 0; t < count; t++) {
            begin(t);
        }
        return this;
    }

    /** Adds d to r so many times, each with the same answer. */
    Table addTimes(int times, int t, int r, int d, int want) {
        for (int i = 0; i < times; i++) {
            add(t, r, d, want);
        }
        return this;
    }

    Table readTimes(int times, int t, int r) {
        for (int i = 0; i < times; i++) {
            read(t, r, OK);
        }
        return this;
    }

    /** Uses up so many numbers of changes without a trace; t has to be the lowest free number. */
    Table spendNumbers(int count, int t) {
        for (int i = 0; i < count; i++) {
            begin(t).add(t, 11, 0, OK).commit(t, OK);
        }
        return this;
    }

    Table crashAndRestart(int p) {
        return crash(true).restart(p, true);
    }

    Table allNow(int want) {
        for (int r = 0; r < 12; r++) {
            now(r, want);
        }
        return this;
    }
}
