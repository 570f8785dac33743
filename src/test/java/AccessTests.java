/** Promises 3 to 6, sentence by sentence: reading and changing records. */
public final class AccessTests extends Cases {
    public static void main(String[] args) {
        start("AccessTests");
        for (Access kind : Access.values()) {
            about("promise " + kind.promise);
            badTransaction(kind);
            badRecord(kind);
            down(kind);
            notOpen(kind);
            busy(kind);
            elseOk(kind);
        }
        for (Access kind : Access.CHANGES) {
            about("promise " + kind.promise);
            tenInEffect(kind);
            thirtyAboveTheLeast(kind);
            theLeastOfAll(kind);
            inEffectOrUndone(kind);
            madeByOneThatIsThere(kind);
            thereAfterCrash(kind);
        }
        about("promise 3");
        readFinds();
        about("promise 4");
        latestReadWithOk();
        noReadYet();
        about("promise 5");
        writeSets();
        about("promise 6");
        addAdds();
        end();
    }

    private static void badTransaction(Access kind) {
        sentence("BAD if t is outside 0..3");
        Table x = table().beginAll(4);
        for (int t : NO_TRANSACTION) {
            x.access(kind, t, 0, BAD);
        }
        x.access(kind, 0, 1, OK).access(kind, 3, 2, OK);
    }

    private static void badRecord(Access kind) {
        sentence("BAD if .. r outside 0..11");
        Table x = table().beginAll(4);
        for (int r : NO_RECORD) {
            x.access(kind, 0, r, BAD).access(kind, 3, r, BAD);
        }
        x.access(kind, 0, 0, OK).access(kind, 3, 11, OK);
    }

    private static void down(Access kind) {
        sentence("DOWN");
        Table x = table().beginAll(2).add(0, 0, 1, OK).prepare(0, OK).crash(true);
        for (int t = 0; t < 4; t++) {
            x.access(kind, t, 0, DOWN).access(kind, t, 11, DOWN);
        }
        x.restart(0, true).access(kind, 0, 5, NONE).begin(1).access(kind, 1, 5, OK);
    }

    private static void notOpen(Access kind) {
        sentence("NONE if t is not OPEN");
        table().access(kind, 0, 0, NONE).access(kind, 3, 11, NONE);
        table().beginAll(2).access(kind, 2, 0, NONE).access(kind, 1, 0, OK);
        table().begin(0).commit(0, OK).access(kind, 0, 0, NONE).begin(0).access(kind, 0, 0, OK);
        table().begin(0).abort(0, OK).access(kind, 0, 0, NONE);
        table().begin(0).crashAndRestart(0).access(kind, 0, 0, NONE);
        table().begin(0).write(0, 0, 1, OK).add(0, 1, 1, OK).prepare(0, OK)
            .access(kind, 0, 0, NONE).access(kind, 0, 1, NONE).access(kind, 0, 2, NONE)
            .crashAndRestart(0).access(kind, 0, 0, NONE).commit(0, OK).access(kind, 0, 0, NONE);
    }

    private static void busy(Access kind) {
        sentence("BUSY if the lock is not granted");
        for (int t = 0; t < 4; t++) {
            for (int r = 0; r < 12; r++) {
                int other = (t + 1 + r % 3) % 4;
                table().beginAll(4).write(other, r, 6, OK).access(kind, t, r, BUSY)
                    .access(kind, t, (r + 1) % 12, OK).commit(other, OK).access(kind, t, r, OK);
            }
        }
        table().beginAll(2).write(0, 0, 6, OK).prepare(0, OK).access(kind, 1, 0, BUSY)
            .crashAndRestart(0).begin(1).access(kind, 1, 0, BUSY).commit(0, OK).access(kind, 1, 0, OK);
    }

    private static void elseOk(Access kind) {
        sentence("else OK");
        for (int t = 0; t < 4; t++) {
            for (int r = 0; r < 12; r++) {
                table().beginAll(4).access(kind, t, r, OK).access(kind, t, r, OK);
            }
        }
    }

    private static void tenInEffect(Access kind) {
        sentence("FULL if t has 10 changes in effect");
        Table x = table().begin(0);
        for (int i = 1; i <= 10; i++) {
            x.access(kind, 0, i, OK).changes(0, i);
        }
        x.access(kind, 0, 0, FULL).access(kind, 0, 1, FULL).now(0, 0).now(1, 1).changes(0, 10);
        x.back(0, 9, OK).access(kind, 0, 0, OK).access(kind, 0, 1, FULL).changes(0, 10);
        x.back(0, 0, OK).access(kind, 0, 0, OK).changes(0, 1);
        sentence("FULL if t has 10 changes in effect: those of t alone");
        table().beginAll(3).addTimes(10, 0, 0, 1, OK).addTimes(9, 1, 0, 1, OK).access(kind, 0, 1, FULL)
            .access(kind, 1, 1, OK).access(kind, 1, 2, FULL).access(kind, 2, 2, OK);
        sentence("FULL if t has 10 changes in effect: a number used again has none");
        table().begin(0).addTimes(10, 0, 0, 1, OK).commit(0, OK).begin(0).access(kind, 0, 0, OK);
        table().begin(0).addTimes(10, 0, 0, 1, OK).crashAndRestart(0).begin(0).access(kind, 0, 0, OK);
        sentence("FULL if t has 10 changes in effect: read is never refused so");
        table().begin(0).addTimes(10, 0, 0, 1, OK).read(0, 0, OK).value(10).read(0, 1, OK);
    }

    private static void thirtyAboveTheLeast(Access kind) {
        sentence("the number of this change would be more than 30 above the least number");
        table().begin(0).add(0, 0, 1, OK).spendNumbers(28, 1).begin(1)
            .access(kind, 1, 1, OK).access(kind, 1, 1, OK).access(kind, 1, 1, FULL).changes(1, 2)
            .access(kind, 0, 2, FULL).changes(0, 1).read(1, 2, OK);
        sentence("more than 30 above the least number: not counted from 0 or from what is gone");
        table().spendNumbers(50, 0).begin(0).add(0, 0, 1, OK).spendNumbers(29, 1).begin(1)
            .access(kind, 1, 1, OK).access(kind, 1, 1, FULL);
        sentence("more than 30 above the least number: its own first change counts");
        table().begin(0).add(0, 0, 1, OK).spendNumbers(29, 1).access(kind, 0, 1, OK)
            .access(kind, 0, 1, FULL).changes(0, 2).abort(0, OK).begin(0).access(kind, 0, 1, OK);
        sentence("more than 30 above the least number: without any change there is no least");
        table().begin(0).read(0, 0, OK).spendNumbers(60, 1).begin(1).access(kind, 0, 1, OK)
            .access(kind, 1, 2, OK);
    }

    private static void theLeastOfAll(Access kind) {
        for (int oldest = 0; oldest < 4; oldest++) {
            sentence("the least number of a change: made by transaction " + oldest);
            int second = (oldest + 1) % 4;
            int third = (oldest + 2) % 4;
            int spender = (oldest + 3) % 4;
            table().beginAll(4).add(oldest, 0, 1, OK).add(second, 0, 1, OK).commit(spender, OK)
                .spendNumbers(28, spender).access(kind, third, 1, OK).access(kind, third, 1, FULL)
                .commit(oldest, OK).access(kind, third, 1, OK).access(kind, third, 1, FULL)
                .commit(second, OK).access(kind, third, 1, OK).changes(third, 3);
        }
    }

    private static void inEffectOrUndone(Access kind) {
        sentence("a change, in effect or undone");
        table().begin(0).add(0, 0, 1, OK).back(0, 0, OK).spendNumbers(29, 1).begin(1)
            .access(kind, 1, 1, OK).access(kind, 1, 1, FULL).access(kind, 0, 2, FULL)
            .commit(0, OK).access(kind, 1, 1, OK);
        table().begin(0).add(0, 0, 1, OK).back(0, 0, OK).add(0, 0, 1, OK).spendNumbers(28, 1)
            .access(kind, 0, 1, OK).access(kind, 0, 1, FULL).back(0, 0, OK).access(kind, 0, 1, FULL);
    }

    private static void madeByOneThatIsThere(Access kind) {
        sentence("made by a transaction that is there now: OPEN");
        window().begin(1).access(kind, 1, 1, FULL);
        sentence("made by a transaction that is there now: PREPARED");
        window().prepare(0, OK).begin(1).access(kind, 1, 1, FULL);
        sentence("made by a transaction that is there now: not a committed one");
        window().commit(0, OK).begin(0).access(kind, 0, 1, OK);
        window().prepare(0, OK).commit(0, OK).begin(0).access(kind, 0, 1, OK);
        sentence("made by a transaction that is there now: not an aborted one");
        window().abort(0, OK).begin(0).access(kind, 0, 1, OK);
        window().prepare(0, OK).abort(0, OK).begin(0).access(kind, 0, 1, OK);
    }

    private static void thereAfterCrash(Access kind) {
        sentence("made by a transaction that is there now: not one that was OPEN at a crash");
        window().crashAndRestart(0).begin(0).access(kind, 0, 1, OK);
        sentence("made by a transaction that is there now: one that was PREPARED at a crash");
        window().prepare(0, OK).crashAndRestart(0).begin(1).access(kind, 1, 1, FULL)
            .abort(0, OK).access(kind, 1, 1, OK);
        table().begin(0).add(0, 0, 1, OK).prepare(0, OK).crashAndRestart(1).spendNumbers(29, 1)
            .crashAndRestart(2).begin(1).access(kind, 1, 1, OK).access(kind, 1, 1, FULL);
        table().begin(0).add(0, 0, 1, OK).back(0, 0, OK).add(0, 0, 1, OK).prepare(0, OK)
            .spendNumbers(28, 1).crashAndRestart(3).begin(1).access(kind, 1, 1, OK).access(kind, 1, 1, FULL);
    }

    /** Transaction 0 has made change 1, and the next change has number 32. */
    private static Table window() {
        return table().begin(0).add(0, 0, 1, OK).spendNumbers(30, 1);
    }

    private static void readFinds() {
        sentence("Transaction t reads record r");
        table().begin(0).write(0, 2, 6, OK).read(0, 2, OK).value(6).add(0, 2, 1, OK).read(0, 2, OK).value(7)
            .back(0, 1, OK).read(0, 2, OK).value(6).changes(0, 1).now(2, 6);
        Table x = table().begin(0);
        for (int r = 2; r < 12; r++) {
            x.write(0, r, 100 + r, OK);
        }
        x.commit(0, OK).begin(0).write(0, 0, 100, OK).write(0, 1, 101, OK).commit(0, OK).begin(0);
        for (int r = 0; r < 12; r++) {
            x.read(0, r, OK).value(100 + r);
        }
    }

    private static void latestReadWithOk() {
        sentence("The value that the latest read with OK found");
        table().begin(0).write(0, 0, 5, OK).write(0, 1, 7, OK).read(0, 0, OK).value(5).value(5)
            .read(0, 1, OK).value(7).read(0, 0, OK).value(5).read(0, 2, OK).value(0);
        sentence("The value that the latest read with OK found: least and greatest");
        table().begin(0).write(0, 0, LEAST, OK).write(0, 1, MOST, OK).read(0, 0, OK).value(LEAST)
            .read(0, 1, OK).value(MOST).write(0, 0, -1, OK).read(0, 0, OK).value(-1);
        sentence("The value that the latest read with OK found: a refused read does not count");
        table().beginAll(2).write(0, 0, 5, OK).write(1, 1, 7, OK).read(0, 0, OK).read(0, 1, BUSY).value(5)
            .read(-1, 3, BAD).value(5).read(0, 12, BAD).value(5).read(3, 3, NONE).value(5)
            .prepare(1, OK).read(1, 1, NONE).value(5).crash(true).read(0, 3, DOWN).value(5);
        sentence("The value that the latest read with OK found: later changes do not touch it");
        table().begin(0).write(0, 0, 5, OK).read(0, 0, OK).write(0, 0, 6, OK).value(5).add(0, 0, 1, OK)
            .value(5).back(0, 0, OK).value(5).now(0, 0).value(5).abort(0, OK).value(5);
        sentence("The value that the latest read with OK found: a crash does not touch it");
        table().begin(0).write(0, 0, LEAST, OK).read(0, 0, OK).crash(true).value(LEAST)
            .restart(0, true).value(LEAST).begin(0).read(0, 0, OK).value(0);
    }

    private static void noReadYet() {
        sentence("0 if there was none");
        table().value(0);
        table().beginAll(2).write(0, 0, 5, OK).add(0, 1, 6, OK).now(0, 5).value(0)
            .read(1, 0, BUSY).value(0).read(0, 12, BAD).value(0).read(2, 0, NONE).value(0)
            .crash(true).value(0).read(0, 0, DOWN).value(0).restart(0, true).value(0);
    }

    private static void writeSets() {
        sentence("Transaction t sets record r to v");
        int[] values = {1, -1, LEAST, MOST, 0, 12345, LEAST + 1, MOST - 1, -12345, 256};
        Table x = table().begin(0);
        for (int r = 0; r < 10; r++) {
            x.write(0, r, values[r], OK).now(r, values[r]).changes(0, r + 1);
        }
        x.commit(0, OK).begin(0).write(0, 11, 5, OK).write(0, 10, 4, OK).write(0, 3, -3, OK)
            .now(11, 5).now(10, 4).now(3, -3).now(2, LEAST);
        sentence("Transaction t sets record r to v: the value it has is a change too");
        table().begin(0).write(0, 0, 0, OK).write(0, 0, 0, OK).changes(0, 2).back(0, 1, OK).changes(0, 1);
    }

    private static void addAdds() {
        sentence("Transaction t adds d to record r");
        int[] amounts = {1, -1, LEAST, MOST, 0, 12345, LEAST + 1, MOST - 1, -12345, 256};
        Table x = table().begin(0);
        for (int r = 0; r < 10; r++) {
            x.add(0, r, amounts[r], OK).now(r, amounts[r]).changes(0, r + 1);
        }
        x.commit(0, OK).begin(0).add(0, 11, 5, OK).add(0, 10, 4, OK).add(0, 0, 8, OK)
            .now(11, 5).now(10, 4).now(0, 9).now(1, -1);
        sentence("Transaction t adds d to record r: adding 0 is a change too");
        table().begin(0).addTimes(10, 0, 0, 0, OK).changes(0, 10).add(0, 0, 0, FULL).now(0, 0);
        sentence("Transaction t adds d to record r: four of them to one");
        table().beginAll(4).add(0, 4, 1, OK).add(1, 4, 20, OK).add(2, 4, 300, OK).add(3, 4, -4000, OK)
            .now(4, -3679).abort(1, OK).now(4, -3699).commit(0, OK).back(3, 0, OK).now(4, 301)
            .abort(2, OK).now(4, 1);
    }
}
