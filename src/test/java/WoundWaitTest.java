/** Promise 5, case (d) and ABORT: an older transaction wounds, a younger one waits. */
public final class WoundWaitTest {
    private static final Due due = new Due();

    public static void main(String[] args) {
        olderWoundsYounger();
        youngerWaitsForOlder();
        woundsTheYoungerAndWaitsForTheOlder();
        woundsAWaiterItWouldOtherwiseShareWith();
        waitsBehindAnOlderWaiterItCouldShareWith();
        woundsTheBlockersFoundAtFirst();
        upgradeWoundsYoungerReaders();
        upgradeWaitsForOlderReaders();
        undoesInReverseOrder();
        undoLogIsEmptiedByAnAbort();
        due.end();
    }

    private static WoundWaitLocks table(int rows, int txs) {
        return new WoundWaitLocks(WoundWaitLocks.WOUND_WAIT, rows, txs);
    }

    private static void olderWoundsYounger() {
        WoundWaitLocks x = table(3, 2);
        x.setRow(0, 7);
        x.setRow(1, 8);
        Table.script(x, 0, "r2 w0+1 w1+2");
        Table.script(x, 1, "r2 r2 r0");
        Table.beginAll(x, 1, 0);
        due.same("events", Table.events(x, 5), "2 2 2 2 2");
        due.is("rowValue(0) written by the younger", x.rowValue(0), 1);
        due.is("rowValue(1) written by the younger", x.rowValue(1), 2);
        due.is("step() of the older", x.step(), WoundWaitLocks.EV_OP);
        due.is("lastTx()", x.lastTx(), 1);
        due.is("lastWounds()", x.lastWounds(), 1);
        due.is("rowValue(0)", x.rowValue(0), 7);
        due.is("rowValue(1)", x.rowValue(1), 8);
        due.is("F_ACC of the older", x.txInfo(1, WoundWaitLocks.F_ACC), 7);
        due.is("F_STATE", x.txInfo(0, WoundWaitLocks.F_STATE), WoundWaitLocks.ST_ABORTED);
        due.is("F_PC", x.txInfo(0, WoundWaitLocks.F_PC), 0);
        due.is("F_ABORTS", x.txInfo(0, WoundWaitLocks.F_ABORTS), 1);
        due.is("F_ABORTS of the older", x.txInfo(1, WoundWaitLocks.F_ABORTS), 0);
        for (int row = 0; row < 3; row++) {
            due.is("holdMode(0, " + row + ")", x.holdMode(0, row), WoundWaitLocks.MODE_NONE);
        }
        due.is("holdMode(1, 0)", x.holdMode(1, 0), WoundWaitLocks.MODE_S);
        due.is("step() of the wounded one", x.step(), WoundWaitLocks.EV_RESTART);
        due.is("lastWounds()", x.lastWounds(), 0);
    }

    private static void youngerWaitsForOlder() {
        String[] first = {"w0+1", "w0+1", "r0"};
        String[] second = {"w0+2", "r0", "w0+2"};
        int[] mode = {WoundWaitLocks.MODE_X, WoundWaitLocks.MODE_S, WoundWaitLocks.MODE_X};
        for (int i = 0; i < 3; i++) {
            WoundWaitLocks x = table(1, 2);
            Table.script(x, 0, first[i]);
            Table.script(x, 1, second[i]);
            Table.beginAll(x, 0, 1);
            due.same("events " + i, Table.events(x, 2), "2 3");
            due.is("F_STATE", x.txInfo(1, WoundWaitLocks.F_STATE), WoundWaitLocks.ST_WAITING);
            due.is("F_WAIT_ROW", x.txInfo(1, WoundWaitLocks.F_WAIT_ROW), 0);
            due.is("F_WAIT_MODE", x.txInfo(1, WoundWaitLocks.F_WAIT_MODE), mode[i]);
            due.is("F_ABORTS", x.txInfo(0, WoundWaitLocks.F_ABORTS), 0);
            due.is("lastWounds()", x.lastWounds(), 0);
            due.is("holdMode(1, 0)", x.holdMode(1, 0), WoundWaitLocks.MODE_NONE);
            due.same("queue", Table.queue(x, 0), "1");
        }
    }

    private static void woundsTheYoungerAndWaitsForTheOlder() {
        WoundWaitLocks x = table(1, 5);
        for (int tx : new int[] {0, 1, 2, 4}) {
            Table.script(x, tx, "r0");
        }
        Table.script(x, 3, "w0+1");
        Table.beginAll(x, 1, 4, 3, 0, 2);
        due.same("events", Table.events(x, 3), "2 2 2");
        due.is("step() of the writer", x.step(), WoundWaitLocks.EV_WAIT);
        due.is("lastTx()", x.lastTx(), 3);
        due.is("lastWounds()", x.lastWounds(), 2);
        due.is("F_STATE of 0", x.txInfo(0, 0), WoundWaitLocks.ST_ABORTED);
        due.is("F_STATE of 1", x.txInfo(1, 0), WoundWaitLocks.ST_ACTIVE);
        due.is("F_STATE of 2", x.txInfo(2, 0), WoundWaitLocks.ST_ABORTED);
        due.same("queue", Table.queue(x, 0), "3");
    }

    private static void woundsAWaiterItWouldOtherwiseShareWith() {
        WoundWaitLocks x = table(1, 3);
        Table.script(x, 0, "r0 r0");
        Table.script(x, 1, "w0+1");
        Table.script(x, 2, "r0");
        Table.beginAll(x, 0, 2, 1);
        due.same("events", Table.events(x, 2), "2 3");
        due.is("step() of the reader", x.step(), WoundWaitLocks.EV_OP);
        due.is("lastWounds()", x.lastWounds(), 1);
        due.is("F_STATE of the waiter", x.txInfo(1, WoundWaitLocks.F_STATE), WoundWaitLocks.ST_ABORTED);
        due.is("F_WAIT_ROW of the waiter", x.txInfo(1, WoundWaitLocks.F_WAIT_ROW), -1);
        due.is("F_WAIT_MODE of the waiter", x.txInfo(1, WoundWaitLocks.F_WAIT_MODE), 0);
        due.is("queueLength(0)", x.queueLength(0), 0);
        due.is("holdMode(0, 0)", x.holdMode(0, 0), WoundWaitLocks.MODE_S);
        due.is("holdMode(2, 0)", x.holdMode(2, 0), WoundWaitLocks.MODE_S);
    }

    private static void waitsBehindAnOlderWaiterItCouldShareWith() {
        WoundWaitLocks x = table(1, 3);
        Table.script(x, 0, "r0 r0");
        Table.script(x, 1, "w0+1");
        Table.script(x, 2, "r0");
        Table.beginAll(x, 0, 1, 2);
        due.same("events", Table.events(x, 3), "2 3 3");
        due.same("queue", Table.queue(x, 0), "1 2");
        due.is("F_WAIT_MODE of the reader", x.txInfo(2, WoundWaitLocks.F_WAIT_MODE), WoundWaitLocks.MODE_S);
    }

    /** Wounding 0 hands the row to the reader 1, which then would be no blocker; it is wounded all the same. */
    private static void woundsTheBlockersFoundAtFirst() {
        WoundWaitLocks x = table(1, 3);
        x.setRow(0, 6);
        Table.script(x, 0, "w0+1");
        Table.script(x, 1, "r0");
        Table.script(x, 2, "r0");
        Table.beginAll(x, 2, 0, 1);
        due.same("events", Table.events(x, 3), "2 3 2");
        due.is("lastWounds()", x.lastWounds(), 2);
        due.is("F_STATE of 0", x.txInfo(0, 0), WoundWaitLocks.ST_ABORTED);
        due.is("F_STATE of 1", x.txInfo(1, 0), WoundWaitLocks.ST_ABORTED);
        due.is("F_ABORTS of 1", x.txInfo(1, WoundWaitLocks.F_ABORTS), 1);
        due.is("holdMode(1, 0)", x.holdMode(1, 0), WoundWaitLocks.MODE_NONE);
        due.is("F_ACC of 2", x.txInfo(2, WoundWaitLocks.F_ACC), 6);
    }

    private static void upgradeWoundsYoungerReaders() {
        WoundWaitLocks x = table(1, 3);
        Table.script(x, 0, "r0 w0+5");
        Table.script(x, 1, "r0 r0");
        Table.script(x, 2, "r0 r0");
        Table.beginAll(x, 0, 1, 2);
        due.same("events", Table.events(x, 4), "2 2 2 2");
        due.is("lastWounds()", x.lastWounds(), 2);
        due.is("holdMode(0, 0)", x.holdMode(0, 0), WoundWaitLocks.MODE_X);
        due.is("rowValue(0)", x.rowValue(0), 5);
    }

    private static void upgradeWaitsForOlderReaders() {
        WoundWaitLocks x = table(1, 3);
        Table.script(x, 0, "r0 r0");
        Table.script(x, 1, "r0 w0+5");
        Table.script(x, 2, "r0 r0");
        Table.beginAll(x, 0, 1, 2);
        due.same("events", Table.events(x, 5), "2 2 2 2 3");
        due.is("lastWounds()", x.lastWounds(), 1);
        due.is("holdMode(1, 0) while it waits", x.holdMode(1, 0), WoundWaitLocks.MODE_S);
        due.is("holdMode(2, 0) of the wounded", x.holdMode(2, 0), WoundWaitLocks.MODE_NONE);
        due.same("events", Table.events(x, 4), "1 5 2 3");
        due.is("holdMode(1, 0) after the handoff", x.holdMode(1, 0), WoundWaitLocks.MODE_X);
        due.is("rowValue(0)", x.rowValue(0), 5);
    }

    private static void undoesInReverseOrder() {
        WoundWaitLocks x = table(4, 2);
        x.setRow(0, 100);
        x.setRow(1, 200);
        x.setRow(2, 300);
        Table.script(x, 0, "w0+1 w1+2 w0+3 w2+4 w0+5 w1+6 w2+7 w2+8");
        Table.script(x, 1, "r3 r3 r3 r3 r3 r3 r3 w1+9");
        Table.beginAll(x, 1, 0);
        x.run(15);
        due.is("rowValue(0) before", x.rowValue(0), 5);
        due.is("rowValue(1) before", x.rowValue(1), 6);
        due.is("rowValue(2) before", x.rowValue(2), 8);
        due.is("step() that wounds", x.step(), WoundWaitLocks.EV_OP);
        due.is("lastWounds()", x.lastWounds(), 1);
        due.is("rowValue(0)", x.rowValue(0), 100);
        due.is("rowValue(1) of the older", x.rowValue(1), 9);
        due.is("rowValue(2)", x.rowValue(2), 300);
        due.same("events", Table.events(x, 2), "1 5");
        x.run(64);
        due.is("rowValue(0) after the second try", x.rowValue(0), 5);
        due.is("rowValue(1) after the second try", x.rowValue(1), 6);
        due.is("rowValue(2) after the second try", x.rowValue(2), 8);
    }

    /** 1 is wounded twice; 2 changes row 0 for good between, which the second undo must not go behind. */
    private static void undoLogIsEmptiedByAnAbort() {
        WoundWaitLocks x = table(3, 3);
        x.setRow(0, 10);
        Table.script(x, 0, "r2 r2 r2 r2 r0");
        Table.script(x, 1, "w0+1 w1+7");
        Table.script(x, 2, "r0 w0+5");
        Table.beginAll(x, 0, 2, 1);
        due.same("events up to the first wound", Table.events(x, 3), "2 2 2");
        due.is("lastWounds()", x.lastWounds(), 1);
        due.is("F_ACC of 2", x.txInfo(2, WoundWaitLocks.F_ACC), 10);
        due.same("events up to the commit of 2", Table.events(x, 6), "2 1 2 2 3 5");
        due.is("rowValue(0)", x.rowValue(0), 15);
        due.same("events up to the second write of 1", Table.events(x, 2), "2 2");
        due.is("rowValue(0)", x.rowValue(0), 1);
        due.is("step() that wounds again", x.step(), WoundWaitLocks.EV_OP);
        due.is("lastTx()", x.lastTx(), 0);
        due.is("lastWounds()", x.lastWounds(), 1);
        due.is("rowValue(0)", x.rowValue(0), 15);
        due.is("F_ACC of 0", x.txInfo(0, WoundWaitLocks.F_ACC), 15);
        due.is("F_ABORTS of 1", x.txInfo(1, WoundWaitLocks.F_ABORTS), 2);
    }
}
