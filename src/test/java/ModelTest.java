/**
 * All promises: made-up runs of calls, right and wrong ones mixed, answered by the class and by the model,
 * with everything shown compared after each call, and the waiting order of promise 5 looked at.
 */
public final class ModelTest {
    private static final int RUNS = 3000;
    private static final Due due = new Due("All promises");
    private static long seed = 20261115L;

    private static int woundsOfSeveral = 0;
    private static int woundsAfterHandoff = 0;
    private static int waitsAfterWounds = 0;
    private static int waitingUpgrades = 0;
    private static int longestQueue = 0;
    private static int handoffsOfSeveral = 0;
    private static int deaths = 0;

    public static void main(String[] args) {
        due.holds("(every call answers as the model does, and the waiting order holds)", ModelTest::manyRuns);
        due.holds("(the runs met every rare turn)", ModelTest::metEveryRareTurn);
        due.end();
    }

    private static void manyRuns() {
        for (int run = 0; run < RUNS && due.allRight(); run++) {
            oneRun(run);
        }
    }

    private static void metEveryRareTurn() {
        due.yes("several wounds in a turn", woundsOfSeveral > 0);
        due.yes("a wound of one no longer blocking", woundsAfterHandoff > 0);
        due.yes("a wait after wounds", waitsAfterWounds > 0);
        due.yes("a waiting upgrade", waitingUpgrades > 0);
        due.yes("a handoff of several", handoffsOfSeveral > 0);
        due.yes("a death", deaths > 0);
        due.is("the longest queue", longestQueue, 7);
    }

    /** A fixed sequence, so that every run of the test is the same. */
    private static int pick(int bound) {
        seed = seed * 6364136223846793005L + 1442695040888963407L;
        return (int) ((seed >>> 33) % bound);
    }

    private static int anyInt() {
        return Table.ANY[pick(Table.ANY.length)];
    }

    private static int mostly(int bound) {
        return pick(40) == 0 ? anyInt() : pick(40) == 0 ? bound : pick(bound);
    }

    private static int someArg() {
        return pick(8) == 0 ? anyInt() : pick(100) - 50;
    }

    private static void oneRun(int run) {
        int policy = pick(2);
        int rows = 1 + pick(run % 3 == 0 ? 16 : 3);
        int txs = 2 + pick(7);
        String name = "run " + run + " (" + policy + ", " + rows + ", " + txs + "): ";
        WoundWaitLocks x = new WoundWaitLocks(policy, rows, txs);
        Model model = new Model(policy, rows, txs);
        int readsOfTen = 1 + pick(9);
        for (int i = 0; i < 2 * rows; i++) {
            int row = mostly(rows);
            int value = someArg();
            due.same(name + "setRow(" + row + ", " + value + ")", "" + x.setRow(row, value),
                "" + model.setRow(row, value));
        }
        addOps(name, x, model, rows, txs, readsOfTen);
        // Many begun at once contend for the rows; the rest begin among the steps.
        int begins = pick(3 * txs);
        for (int i = 0; i < begins; i++) {
            begin(name, x, model, txs);
        }
        for (int i = 0; i < 150 && due.allRight(); i++) {
            oneCall(name, x, model, rows, txs);
            due.same(name + "the state after call " + i, Table.shown(x), model.shown());
            WaitingOrder.ask(due, name, x, policy, txs);
            someoneCanAct(name, x, txs);
        }
        woundsOfSeveral += model.woundsOfSeveral;
        woundsAfterHandoff += model.woundsAfterHandoff;
        waitsAfterWounds += model.waitsAfterWounds;
        waitingUpgrades += model.waitingUpgrades;
        longestQueue = Math.max(longestQueue, model.longestQueue);
        handoffsOfSeveral += model.handoffsOfSeveral;
        deaths += model.deaths;
    }

    private static void addOps(String name, WoundWaitLocks x, Model model, int rows, int txs, int readsOfTen) {
        int calls = (2 + pick(9)) * txs;
        for (int i = 0; i < calls; i++) {
            int tx = mostly(txs);
            int kind = pick(10) < readsOfTen ? 1 : 2;
            addOne(name, x, model, tx, pick(40) == 0 ? anyInt() : kind, mostly(rows));
        }
    }

    private static void addOne(String name, WoundWaitLocks x, Model model, int tx, int kind, int row) {
        int arg = someArg();
        due.same(name + "addOp(" + tx + ", " + kind + ", " + row + ", " + arg + ")",
            "" + x.addOp(tx, kind, row, arg), "" + model.addOp(tx, kind, row, arg));
    }

    private static void begin(String name, WoundWaitLocks x, Model model, int txs) {
        int tx = mostly(txs);
        due.is(name + "begin(" + tx + ")", x.begin(tx), model.begin(tx));
    }

    private static void oneCall(String name, WoundWaitLocks x, Model model, int rows, int txs) {
        int choice = pick(20);
        if (choice < 3) {
            begin(name, x, model, txs);
        } else if (choice == 4) {
            addOne(name, x, model, mostly(txs), 1 + pick(2), mostly(rows));
        } else if (choice == 5) {
            int row = mostly(rows);
            due.same(name + "setRow(" + row + ", 3)", "" + x.setRow(row, 3), "" + model.setRow(row, 3));
        } else if (choice == 6) {
            int n = pick(30) == 0 ? anyInt() : pick(6) - 1;
            due.is(name + "run(" + n + ")", x.run(n), model.run(n));
        } else {
            due.is(name + "step()", x.step(), model.step());
        }
    }

    private static void someoneCanAct(String name, WoundWaitLocks x, int txs) {
        String states = Table.states(x, txs);
        if (states.contains("2")) {
            due.yes(name + "someone can act while another waits", states.contains("1") || states.contains("3"));
        }
    }
}
