/**
 * All promises: made-up runs of calls, right and wrong ones mixed, answered by the class and by the model,
 * with everything shown compared after each call, and the waiting order of promise 5 looked at.
 */
public final class ModelTest {
    private static final int RUNS = 3000;
    private static final Due due = new Due();
    private static long seed = 20261115L;

    private static int woundsOfSeveral = 0;
    private static int woundsAfterHandoff = 0;
    private static int waitsAfterWounds = 0;
    private static int waitingUpgrades = 0;
    private static int longestQueue = 0;
    private static int handoffsOfSeveral = 0;
    private static int deaths = 0;

    public static void main(String[] args) {
        for (int run = 0; run < RUNS && due.allRight(); run++) {
            oneRun(run);
        }
        System.out.println("met: " + woundsOfSeveral + " turns with several wounds, "
            + woundsAfterHandoff + " wounds of one no longer blocking, "
            + waitsAfterWounds + " waits after wounds, " + waitingUpgrades + " waiting upgrades, "
            + longestQueue + " in the longest queue, " + handoffsOfSeveral + " handoffs of several, "
            + deaths + " deaths");
        due.yes("the runs met every rare turn", woundsOfSeveral > 0 && woundsAfterHandoff > 0
            && waitsAfterWounds > 0 && waitingUpgrades > 0 && longestQueue == 7
            && handoffsOfSeveral > 0 && deaths > 0);
        due.end();
    }

    /** A fixed sequence, so that every run of the test is the same. */
    private static int pick(int bound) {
        seed = seed * 6364136223846793005L + 1442695040888963407L;
        return (int) ((seed >>> 33) % bound);
    }

    private static int anyInt() {
        return Table.FAR[pick(Table.FAR.length)];
    }

    private static int mostly(int bound) {
        return pick(40) == 0 ? anyInt() : pick(40) == 0 ? bound : pick(bound);
    }

    private static int someArg() {
        return pick(8) == 0 ? anyInt() : pick(100) - 50;
    }

    private static void oneRun(int run) {
        int policy = pick(2);
        int rows = 1 + pick(run % 3 == 0 ? 16 : 3);
        int txs = 2 + pick(7);
        String name = "run " + run + " (" + policy + ", " + rows + ", " + txs + "): ";
        WoundWaitLocks x = new WoundWaitLocks(policy, rows, txs);
        Model model = new Model(policy, rows, txs);
        int readsOfTen = 1 + pick(9);
        for (int i = 0; i < 2 * rows; i++) {
            int row = mostly(rows);
            int value = someArg();
            due.same(name + "setRow(" + row + ", " + value + ")", "" + x.setRow(row, value),
                "" + model.setRow(row, value));
        }
        addOps(name, x, model, rows, txs, readsOfTen);
        // Many begun at once contend for the rows; the rest begin among the steps.
        int begins = pick(3 * txs);
        for (int i = 0; i < begins; i++) {
            begin(name, x, model, txs);
        }
        for (int i = 0; i < 150 && due.allRight(); i++) {
            oneCall(name, x, model, rows, txs);
            due.same(name + "the state after call " + i, Table.shown(x), model.shown());
            waitingOrder(name, x, policy, txs);
        }
        woundsOfSeveral += model.woundsOfSeveral;
        woundsAfterHandoff += model.woundsAfterHandoff;
        waitsAfterWounds += model.waitsAfterWounds;
        waitingUpgrades += model.waitingUpgrades;
        longestQueue = Math.max(longestQueue, model.longestQueue);
        handoffsOfSeveral += model.handoffsOfSeveral;
        deaths += model.deaths;
    }

    private static void addOps(String name, WoundWaitLocks x, Model model, int rows, int txs, int readsOfTen) {
        int calls = (2 + pick(9)) * txs;
        for (int i = 0; i < calls; i++) {
            int tx = mostly(txs);
            int kind = pick(10) < readsOfTen ? 1 : 2;
            addOne(name, x, model, tx, pick(40) == 0 ? anyInt() : kind, mostly(rows));
        }
    }

    private static void addOne(String name, WoundWaitLocks x, Model model, int tx, int kind, int row) {
        int arg = someArg();
        due.same(name + "addOp(" + tx + ", " + kind + ", " + row + ", " + arg + ")",
            "" + x.addOp(tx, kind, row, arg), "" + model.addOp(tx, kind, row, arg));
    }

    private static void begin(String name, WoundWaitLocks x, Model model, int txs) {
        int tx = mostly(txs);
        due.is(name + "begin(" + tx + ")", x.begin(tx), model.begin(tx));
    }

    private static void oneCall(String name, WoundWaitLocks x, Model model, int rows, int txs) {
        int choice = pick(20);
        if (choice < 3) {
            begin(name, x, model, txs);
        } else if (choice == 4) {
            addOne(name, x, model, mostly(txs), 1 + pick(2), mostly(rows));
        } else if (choice == 5) {
            int row = mostly(rows);
            due.same(name + "setRow(" + row + ", 3)", "" + x.setRow(row, 3), "" + model.setRow(row, 3));
        } else if (choice == 6) {
            int n = pick(30) == 0 ? anyInt() : pick(6) - 1;
            due.is(name + "run(" + n + ")", x.run(n), model.run(n));
        } else {
            due.is(name + "step()", x.step(), model.step());
        }
    }

    private static void waitingOrder(String name, WoundWaitLocks x, int policy, int txs) {
        boolean canAct = false;
        boolean waits = false;
        for (int w = 0; w < txs; w++) {
            int state = x.txInfo(w, WoundWaitLocks.F_STATE);
            canAct |= state == WoundWaitLocks.ST_ACTIVE || state == WoundWaitLocks.ST_ABORTED;
            if (state == WoundWaitLocks.ST_WAITING) {
                waits = true;
                waiterInOrder(name, x, policy, txs, w);
            }
        }
        if (waits && !canAct) {
            due.yes(name + "someone can act while another waits", false);
        }
    }

    private static void waiterInOrder(String name, WoundWaitLocks x, int policy, int txs, int w) {
        int row = x.txInfo(w, WoundWaitLocks.F_WAIT_ROW);
        int mode = x.txInfo(w, WoundWaitLocks.F_WAIT_MODE);
        boolean ahead = true;
        for (int pos = 0; pos < x.queueLength(row); pos++) {
            int u = x.queueAt(row, pos);
            ahead = ahead && u != w;
            if (ahead) {
                pairInOrder(name, x, policy, u, w);
            }
        }
        for (int u = 0; u < txs; u++) {
            int held = x.holdMode(u, row);
            boolean conflicts = mode == WoundWaitLocks.MODE_S ? held == WoundWaitLocks.MODE_X : held != 0;
            if (u != w && conflicts) {
                pairInOrder(name, x, policy, u, w);
            }
        }
    }

    private static void pairInOrder(String name, WoundWaitLocks x, int policy, int u, int w) {
        int ahead = x.txInfo(u, WoundWaitLocks.F_TIMESTAMP);
        int behind = x.txInfo(w, WoundWaitLocks.F_TIMESTAMP);
        boolean inOrder = policy == WoundWaitLocks.WOUND_WAIT ? ahead < behind : ahead > behind;
        due.yes(name + w + " may wait for " + u, inOrder);
    }
}
