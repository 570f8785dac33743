/** Promises 1 and 13 to 17, sentence by sentence: the table as a whole. */
public final class SystemTests extends Cases {
    public static void main(String[] args) {
        start("SystemTests");
        constants();
        about("promise 1");
        newIsUp();
        newIsZero();
        newIsEmpty();
        about("promise 13");
        recordNow();
        noRecordNow();
        about("promise 14");
        pages();
        stealRefused();
        about("promise 15");
        checkpoints();
        about("promise 16");
        becomesDown();
        crashWhenDown();
        about("promise 17");
        becomesUp();
        restartWhenUp();
        end();
    }

    private static void constants() {
        about("the public face");
        sentence("the constants");
        checks().due("OK", RecoverableTable.OK, 0);
        checks().due("DOWN", RecoverableTable.DOWN, 1);
        checks().due("NONE", RecoverableTable.NONE, 2);
        checks().due("BUSY", RecoverableTable.BUSY, 3);
        checks().due("FULL", RecoverableTable.FULL, 4);
        checks().due("BAD", RecoverableTable.BAD, 5);
        checks().due("OPEN", RecoverableTable.OPEN, 1);
        checks().due("PREPARED", RecoverableTable.PREPARED, 2);
    }

    private static void newIsUp() {
        sentence("The system is UP");
        table().restart(0, false);
        table().checkpoint(true);
        table().begin(0);
        table().crash(true);
    }

    private static void newIsZero() {
        sentence("all records are 0");
        table().allNow(0);
        Table x = table().begin(0);
        for (int r = 0; r < 12; r++) {
            x.read(0, r, OK).value(0);
        }
        sentence("all records are 0: whatever another object holds");
        Table one = table().begin(0).write(0, 3, 7, OK).read(0, 3, OK);
        Table other = table().now(3, 0).value(0).begin(0).write(0, 3, 8, OK);
        one.now(3, 7).value(7);
        other.now(3, 8);
    }

    private static void newIsEmpty() {
        sentence("no transaction is there");
        Table x = table();
        for (int t = 0; t < 4; t++) {
            x.state(t, 0).changes(t, -1).commit(t, NONE);
        }
        table().begin(0).begin(1).begin(2).begin(3);
        sentence("no transaction is there: whatever another object holds");
        table().beginAll(4);
        table().state(0, 0).begin(0);
    }

    private static void recordNow() {
        sentence("Record r as it is now, changes in effect included");
        Table x = table().begin(0);
        for (int r = 2; r < 12; r++) {
            x.write(0, r, r + 100, OK);
        }
        x.commit(0, OK).begin(0).write(0, 0, 100, OK).add(0, 1, 101, OK);
        for (int r = 0; r < 12; r++) {
            x.now(r, r + 100);
        }
        x.back(0, 1, OK).now(0, 100).now(1, 0).prepare(0, OK).now(0, 100).abort(0, OK).now(0, 0);
        sentence("Record r as it is now, changes in effect included: it needs no lock and takes none");
        table().beginAll(2).write(0, 0, 5, OK).now(0, 5).now(1, 0).write(1, 1, 6, OK).value(0);
    }

    private static void noRecordNow() {
        sentence("0 if r is outside 0..11");
        Table x = table().begin(0).write(0, 0, 7, OK).write(0, 11, 8, OK);
        for (int r : NO_RECORD) {
            x.now(r, 0);
        }
        x.now(0, 7).now(11, 8);
        sentence("0 if .. the system is DOWN");
        table().begin(0).write(0, 0, 7, OK).write(0, 11, 8, OK).commit(0, OK).crash(true)
            .allNow(0).now(-1, 0).now(12, 0).restart(0, true).now(0, 7).now(11, 8);
        table().begin(0).write(0, 0, 7, OK).prepare(0, OK).crash(true).now(0, 0).restart(0, true).now(0, 7);
    }

    private static void pages() {
        sentence("Writes page p (0..2: the records 4 p to 4 p + 3) to disk");
        table().steal(0, true).steal(1, true).steal(2, true).steal(2, true);
        Table x = table().begin(0).write(0, 3, 1, OK).write(0, 4, 2, OK).write(0, 7, 3, OK).write(0, 8, 4, OK)
            .commit(0, OK).begin(0).write(0, 0, 5, OK).write(0, 11, 6, OK).write(0, 3, 7, OK)
            .write(0, 4, 8, OK).add(0, 7, 9, OK).add(0, 8, 10, OK).steal(0, true).steal(1, true)
            .steal(2, true).crashAndRestart(0);
        x.now(0, 0).now(3, 1).now(4, 2).now(7, 3).now(8, 4).now(11, 0);
    }

    private static void stealRefused() {
        sentence("False if p is outside 0..2");
        Table x = table();
        for (int p : NO_PAGE) {
            x.steal(p, false);
        }
        sentence("False if .. the system is DOWN");
        table().crash(true).steal(0, false).steal(1, false).steal(2, false).steal(3, false)
            .restart(0, true).steal(0, true);
    }

    private static void checkpoints() {
        sentence("Notes a checkpoint");
        table().checkpoint(true).checkpoint(true).beginAll(4).checkpoint(true);
        table().beginAll(3).write(0, 0, 1, OK).add(1, 1, 2, OK).add(2, 2, 3, OK).prepare(2, OK)
            .checkpoint(true).add(0, 5, 1, OK).add(1, 1, 2, OK).commit(1, OK).state(0, OPEN)
            .crashAndRestart(12).now(0, 0).now(1, 4).now(2, 3).now(5, 0).state(2, PREPARED).changes(2, 1);
        sentence("False if the system is DOWN");
        table().crash(true).checkpoint(false).checkpoint(false).restart(0, true).checkpoint(true);
    }

    private static void becomesDown() {
        sentence("The system becomes DOWN");
        table().crash(true).begin(-1).checkpoint(false).read(0, 0, DOWN).restart(0, true);
        sentence("what WHAT A CRASH KEEPS does not name is lost");
        table().beginAll(4).write(0, 0, 1, OK).commit(0, OK).begin(0).write(0, 0, 2, OK).add(0, 1, 3, OK)
            .add(1, 1, 4, OK).prepare(1, OK).add(2, 1, 5, OK).commit(2, OK).add(3, 1, 6, OK).back(3, 0, OK)
            .read(0, 9, OK).crash(true).restart(0, true).now(0, 1).now(1, 9).state(0, 0).state(1, PREPARED)
            .state(2, 0).state(3, 0).changes(1, 1).begin(0).write(0, 0, 7, OK).write(0, 9, 7, OK)
            .write(0, 1, 7, BUSY);
    }

    private static void crashWhenDown() {
        sentence("False if it is DOWN");
        table().crash(true).crash(false).crash(false).restart(0, true).crash(true).crash(false);
        table().begin(0).write(0, 0, 4, OK).prepare(0, OK).crash(true).crash(false).restart(0, true)
            .now(0, 4).state(0, PREPARED).restart(0, false);
    }

    private static void becomesUp() {
        sentence("The system becomes UP");
        table().crash(true).restart(0, true).begin(0).checkpoint(true).read(0, 0, OK).crash(true);
        sentence("as WHAT A CRASH KEEPS says: again and again");
        Table x = table().begin(0).write(0, 4, 2, OK).add(0, 8, 3, OK).prepare(0, OK);
        // Transaction 0 made changes 1 and 2, so the last one that another can make is 31.
        for (int p = 0; p < 29; p++) {
            x.crashAndRestart(p).now(4, 2).now(8, p + 3).state(0, PREPARED).changes(0, 2)
                .begin(1).add(1, 8, 1, OK).read(1, 4, BUSY).commit(1, OK);
        }
        x.crashAndRestart(0).abort(0, OK).now(4, 0).now(8, 29).crashAndRestart(0).now(4, 0).now(8, 29);
    }

    private static void restartWhenUp() {
        sentence("False if it is UP");
        table().restart(0, false).restart(LEAST, false).restart(MOST, false).crash(true).restart(0, true)
            .restart(0, false).crash(true).restart(-1, true).restart(-1, false);
        table().begin(0).write(0, 0, 1, OK).restart(5, false).state(0, OPEN).now(0, 1).changes(0, 1)
            .write(0, 0, 2, OK).abort(0, OK).now(0, 0);
    }
}
