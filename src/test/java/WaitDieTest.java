/** Promise 5, case (e) and ABORT: an older transaction waits, a younger one dies. */
public final class WaitDieTest {
    private static final Due due = new Due();

    public static void main(String[] args) {
        olderWaits();
        youngerDies();
        diesUnlessOlderThanEveryBlocker();
        waitersBlockAlso();
        upgradeWaitsOrDies();
        readersDoNotBlockReaders();
        dyingUndoesAndHandsOver();
        due.end();
    }

    private static WoundWaitLocks table(int rows, int txs) {
        return new WoundWaitLocks(WoundWaitLocks.WAIT_DIE, rows, txs);
    }

    private static void olderWaits() {
        String[] first = {"w0+1", "w0+1", "r0"};
        String[] second = {"w0+2", "r0", "w0+2"};
        int[] mode = {WoundWaitLocks.MODE_X, WoundWaitLocks.MODE_S, WoundWaitLocks.MODE_X};
        for (int i = 0; i < 3; i++) {
            WoundWaitLocks x = table(1, 2);
            Table.script(x, 0, first[i]);
            Table.script(x, 1, second[i]);
            Table.beginAll(x, 1, 0);
            due.same("events " + i, Table.events(x, 2), "2 3");
            due.is("F_STATE", x.txInfo(1, WoundWaitLocks.F_STATE), WoundWaitLocks.ST_WAITING);
            due.is("F_WAIT_ROW", x.txInfo(1, WoundWaitLocks.F_WAIT_ROW), 0);
            due.is("F_WAIT_MODE", x.txInfo(1, WoundWaitLocks.F_WAIT_MODE), mode[i]);
            due.is("lastWounds()", x.lastWounds(), 0);
            due.is("F_ABORTS of the younger", x.txInfo(0, WoundWaitLocks.F_ABORTS), 0);
            due.same("queue", Table.queue(x, 0), "1");
        }
    }

    private static void youngerDies() {
        String[] first = {"w0+1", "w0+1", "r0"};
        String[] second = {"w0+2", "r0", "w0+2"};
        for (int i = 0; i < 3; i++) {
            WoundWaitLocks x = table(1, 2);
            Table.script(x, 0, first[i]);
            Table.script(x, 1, second[i]);
            Table.beginAll(x, 0, 1);
            due.same("events " + i, Table.events(x, 2), "2 4");
            due.is("lastTx()", x.lastTx(), 1);
            due.is("lastWounds()", x.lastWounds(), 0);
            due.is("F_STATE", x.txInfo(1, WoundWaitLocks.F_STATE), WoundWaitLocks.ST_ABORTED);
            due.is("F_ABORTS", x.txInfo(1, WoundWaitLocks.F_ABORTS), 1);
            due.is("F_WAIT_ROW", x.txInfo(1, WoundWaitLocks.F_WAIT_ROW), -1);
            due.is("queueLength(0)", x.queueLength(0), 0);
            due.same("events", Table.events(x, 4), "5 1 2 5");
        }
    }

    private static void diesUnlessOlderThanEveryBlocker() {
        int[][] orders = {{3, 0, 1, 2}, {0, 3, 1, 2}, {1, 3, 0, 2}, {2, 3, 1, 0}, {0, 1, 2, 3}};
        for (int[] order : orders) {
            WoundWaitLocks x = table(1, 4);
            for (int tx = 0; tx < 3; tx++) {
                Table.script(x, tx, "r0");
            }
            Table.script(x, 3, "w0+1");
            Table.beginAll(x, order);
            due.same("events of reads", Table.events(x, 3), "2 2 2");
            int want = order[0] == 3 ? WoundWaitLocks.EV_WAIT : WoundWaitLocks.EV_DIE;
            due.is("step() of the writer", x.step(), want);
        }
    }

    private static void waitersBlockAlso() {
        WoundWaitLocks x = table(1, 4);
        Table.script(x, 0, "r0 r0");
        Table.script(x, 1, "w0+1");
        Table.script(x, 2, "r0");
        Table.script(x, 3, "r0");
        Table.beginAll(x, 2, 1, 0, 3);
        due.same("events", Table.events(x, 3), "2 3 3");
        due.same("queue", Table.queue(x, 0), "1 2");
        due.is("F_WAIT_MODE of the reader", x.txInfo(2, WoundWaitLocks.F_WAIT_MODE), WoundWaitLocks.MODE_S);
        due.is("step() of a reader younger than the waiters", x.step(), WoundWaitLocks.EV_DIE);
        due.same("queue", Table.queue(x, 0), "1 2");
    }

    private static void upgradeWaitsOrDies() {
        WoundWaitLocks x = table(1, 2);
        Table.script(x, 0, "r0 w0+1");
        Table.script(x, 1, "r0 w0+2");
        Table.beginAll(x, 0, 1);
        due.same("events", Table.events(x, 3), "2 2 3");
        due.is("holdMode(0, 0) while it waits", x.holdMode(0, 0), WoundWaitLocks.MODE_S);
        due.is("step() of the younger", x.step(), WoundWaitLocks.EV_DIE);
        due.is("F_STATE of the older", x.txInfo(0, WoundWaitLocks.F_STATE), WoundWaitLocks.ST_ACTIVE);
        due.is("holdMode(0, 0) after the handoff", x.holdMode(0, 0), WoundWaitLocks.MODE_X);
        due.is("holdMode(1, 0) after dying", x.holdMode(1, 0), WoundWaitLocks.MODE_NONE);
        due.is("rowValue(0) before its next turn", x.rowValue(0), 0);
        due.same("events", Table.events(x, 3), "2 1 5");
        x.run(64);
        due.is("rowValue(0)", x.rowValue(0), 3);
        due.is("F_ABORTS of the younger", x.txInfo(1, WoundWaitLocks.F_ABORTS), 1);
    }

    private static void readersDoNotBlockReaders() {
        WoundWaitLocks x = table(1, 8);
        for (int tx = 0; tx < 8; tx++) {
            Table.script(x, tx, "r0");
        }
        Table.beginAll(x, 3, 1, 4, 0, 5, 7, 2, 6);
        due.same("events", Table.events(x, 8), "2 2 2 2 2 2 2 2");
    }

    private static void dyingUndoesAndHandsOver() {
        WoundWaitLocks x = table(3, 3);
        x.setRow(0, 40);
        x.setRow(1, 50);
        Table.script(x, 0, "w0+1 w0+2 w1+3 r2");
        Table.script(x, 1, "w2+1 w2+2 w2+3 w2+4");
        Table.script(x, 2, "r0");
        Table.beginAll(x, 2, 1, 0);
        due.same("events", Table.events(x, 7), "2 2 3 2 2 2 2");
        due.is("rowValue(0) before", x.rowValue(0), 2);
        due.is("rowValue(1) before", x.rowValue(1), 3);
        due.same("queue", Table.queue(x, 0), "2");
        due.is("step() of 0", x.step(), WoundWaitLocks.EV_DIE);
        due.is("rowValue(0)", x.rowValue(0), 40);
        due.is("rowValue(1)", x.rowValue(1), 50);
        due.is("rowValue(2) of the other", x.rowValue(2), 3);
        due.is("queueLength(0)", x.queueLength(0), 0);
        due.is("holdMode(2, 0)", x.holdMode(2, 0), WoundWaitLocks.MODE_S);
        due.is("holdMode(0, 0)", x.holdMode(0, 0), WoundWaitLocks.MODE_NONE);
        due.is("holdMode(0, 1)", x.holdMode(0, 1), WoundWaitLocks.MODE_NONE);
        due.is("F_STATE of 2", x.txInfo(2, WoundWaitLocks.F_STATE), WoundWaitLocks.ST_ACTIVE);
    }
}
