/** Long runs of mixed calls, the same ones every time, with the model's answers as the ones due. */
public final class ModelTests {
    private static final int RUNS = 10000;
    // An object is promised for 512 calls, and one step here makes up to 27 of them.
    private static final int CALLS = 512;
    private static final int MOST_IN_A_STEP = 27;
    private static final int[] ODD = {-1, -2, 12, 13, 100, Integer.MIN_VALUE, Integer.MAX_VALUE};

    private final Checks checks;
    private final RecoverableTable table = new RecoverableTable();
    private final Model model = new Model();
    private final int usedRecords;
    private final int crashIn;
    private final int endIn;
    private long seed;
    private int calls = 0;

    private ModelTests(Checks checks, int run) {
        this.checks = checks;
        seed = run * 7919L + 17;
        usedRecords = 1 + next(12);
        crashIn = run % 4 == 0 ? 1 : 8 + next(200);
        endIn = 1 + next(12);
    }

    public static void main(String[] args) {
        Checks checks = new Checks("ModelTests");
        for (int run = 1; run <= RUNS && checks.wrong() < 20; run++) {
            ModelTests test = new ModelTests(checks, run);
            while (test.calls + MOST_IN_A_STEP <= CALLS) {
                checks.part("run " + run + ", call " + (test.calls + 1));
                test.step();
            }
        }
        checks.close();
    }

    private void same(String call, long got, long want) {
        calls++;
        checks.due(call, got, want);
    }

    private void same(String call, boolean got, boolean want) {
        calls++;
        checks.due(call, got, want);
    }

    private int next(int bound) {
        seed = seed * 6364136223846793005L + 1442695040888963407L;
        return (int) ((seed >>> 33) % bound);
    }

    private int argument(int bound) {
        return next(60) == 0 ? ODD[next(ODD.length)] : next(bound);
    }

    private int amount() {
        return next(8) == 0 ? ODD[next(ODD.length)] : next(2000) - 1000;
    }

    private void step() {
        int kind = next(40);
        if (kind < 5) {
            same("begin()", table.begin(), model.begin());
        } else if (kind < 26) {
            access(kind);
        } else if (kind < 29) {
            look();
        } else if (kind < 32) {
            goBack();
        } else if (kind < 36) {
            endOne();
        } else {
            crashOrRestart();
        }
    }

    private void access(int kind) {
        int t = argument(4);
        int r = argument(usedRecords);
        int v = amount();
        if (kind < 10) {
            same("read(" + t + ", " + r + ")", table.read(t, r), model.read(t, r));
            same("value()", table.value(), model.value());
        } else if (kind < 15) {
            same("write(" + t + ", " + r + ", " + v + ")", table.write(t, r, v), model.write(t, r, v));
        } else {
            same("add(" + t + ", " + r + ", " + v + ")", table.add(t, r, v), model.add(t, r, v));
        }
    }

    private void look() {
        for (int r = -1; r <= 12; r++) {
            same("now(" + r + ")", table.now(r), model.now(r));
        }
        for (int t = -1; t <= 4; t++) {
            same("state(" + t + ")", table.state(t), model.state(t));
            same("changes(" + t + ")", table.changes(t), model.changes(t));
        }
        same("value()", table.value(), model.value());
    }

    private void goBack() {
        int t = argument(4);
        int n = next(5) == 0 ? next(14) - 2 : Math.max(0, model.changes(t) - next(4));
        same("back(" + t + ", " + n + ")", table.back(t, n), model.back(t, n));
    }

    private void endOne() {
        int t = argument(4);
        int kind = next(3 * endIn);
        if (kind == 0) {
            same("commit(" + t + ")", table.commit(t), model.commit(t));
        } else if (kind == 1) {
            same("abort(" + t + ")", table.abort(t), model.abort(t));
        } else if (kind == 2) {
            same("prepare(" + t + ")", table.prepare(t), model.prepare(t));
        }
    }

    private void crashOrRestart() {
        int p = amount();
        int page = argument(3);
        switch (next(4)) {
            case 0 -> same("steal(" + page + ")", table.steal(page), model.steal(page));
            case 1 -> same("checkpoint()", table.checkpoint(), model.checkpoint());
            case 2 -> same("restart(" + p + ")", table.restart(p), model.restart());
            default -> {
                if (next(crashIn) == 0) {
                    same("crash()", table.crash(), model.crash());
                }
            }
        }
    }
}
