/** Promise 5, HANDOFF: whom a row is handed to when locks are dropped, and whom not. */
public final class HandoffTest {
    private static final Due due = new Due();

    public static void main(String[] args) {
        admitsReadersUpToAWriter();
        aHeadThatMustWaitHoldsUpTheRest();
        admitsOnEveryRow();
        theHeadsOwnSharedLockIsNoHindrance();
        anAbortHandsOverOtherRows();
        aLeavingHeadLetsTheNextIn();
        due.end();
    }

    private static void admitsReadersUpToAWriter() {
        WoundWaitLocks x = new WoundWaitLocks(WoundWaitLocks.WAIT_DIE, 1, 5);
        Table.script(x, 0, "w0+4");
        Table.script(x, 1, "r0");
        Table.script(x, 2, "r0");
        Table.script(x, 3, "w0+1");
        Table.script(x, 4, "r0");
        Table.beginAll(x, 4, 3, 2, 1, 0);
        due.same("events", Table.events(x, 5), "2 3 3 3 3");
        due.same("queue", Table.queue(x, 0), "1 2 3 4");
        due.is("step() of the holder", x.step(), WoundWaitLocks.EV_COMMIT);
        due.same("queue after the commit", Table.queue(x, 0), "3 4");
        for (int tx = 1; tx <= 2; tx++) {
            due.is("F_STATE of " + tx, x.txInfo(tx, WoundWaitLocks.F_STATE), WoundWaitLocks.ST_ACTIVE);
            due.is("F_WAIT_ROW of " + tx, x.txInfo(tx, WoundWaitLocks.F_WAIT_ROW), -1);
            due.is("F_WAIT_MODE of " + tx, x.txInfo(tx, WoundWaitLocks.F_WAIT_MODE), 0);
            due.is("F_PC of " + tx, x.txInfo(tx, WoundWaitLocks.F_PC), 0);
            due.is("F_ACC of " + tx, x.txInfo(tx, WoundWaitLocks.F_ACC), 0);
            due.is("holdMode of " + tx, x.holdMode(tx, 0), WoundWaitLocks.MODE_S);
        }
        due.is("holdMode of the committed", x.holdMode(0, 0), WoundWaitLocks.MODE_NONE);
        due.same("events of the readers", Table.events(x, 3), "2 2 5");
        due.same("queue with one reader left", Table.queue(x, 0), "3 4");
        due.is("step() of that reader", x.step(), WoundWaitLocks.EV_COMMIT);
        due.same("queue with the writer in", Table.queue(x, 0), "4");
        due.is("holdMode of the writer", x.holdMode(3, 0), WoundWaitLocks.MODE_X);
        due.same("events", Table.events(x, 5), "2 5 2 5 0");
        due.is("F_ACC of the last reader", x.txInfo(4, WoundWaitLocks.F_ACC), 1);
    }

    private static void aHeadThatMustWaitHoldsUpTheRest() {
        WoundWaitLocks x = new WoundWaitLocks(WoundWaitLocks.WOUND_WAIT, 1, 4);
        Table.script(x, 0, "r0");
        Table.script(x, 1, "r0 r0 r0");
        Table.script(x, 2, "w0+1");
        Table.script(x, 3, "r0");
        Table.beginAll(x, 0, 1, 2, 3);
        due.same("events", Table.events(x, 5), "2 2 3 3 5");
        due.same("queue after a reader's commit", Table.queue(x, 0), "2 3");
        due.is("holdMode(3, 0)", x.holdMode(3, 0), WoundWaitLocks.MODE_NONE);
        due.same("events", Table.events(x, 3), "2 2 5");
        due.same("queue after the last reader's commit", Table.queue(x, 0), "3");
        due.is("holdMode(2, 0)", x.holdMode(2, 0), WoundWaitLocks.MODE_X);
    }

    private static void admitsOnEveryRow() {
        WoundWaitLocks x = new WoundWaitLocks(WoundWaitLocks.WOUND_WAIT, 16, 8);
        int[] rows = {15, 0, 7, 14, 3, 1, 8};
        Table.script(x, 0, "w15+1 w0+1 w7+1 w14+1 w3+1 w1+1 w8+1");
        x.begin(0);
        x.run(7);
        for (int tx = 1; tx < 8; tx++) {
            Table.script(x, tx, "r" + rows[tx - 1]);
            x.begin(tx);
        }
        due.same("events", Table.events(x, 7), "3 3 3 3 3 3 3");
        due.is("step() of the holder", x.step(), WoundWaitLocks.EV_COMMIT);
        for (int tx = 1; tx < 8; tx++) {
            due.is("queueLength(" + rows[tx - 1] + ")", x.queueLength(rows[tx - 1]), 0);
            due.is("holdMode of " + tx, x.holdMode(tx, rows[tx - 1]), WoundWaitLocks.MODE_S);
            due.is("F_STATE of " + tx, x.txInfo(tx, WoundWaitLocks.F_STATE), WoundWaitLocks.ST_ACTIVE);
        }
    }

    private static void theHeadsOwnSharedLockIsNoHindrance() {
        WoundWaitLocks x = new WoundWaitLocks(WoundWaitLocks.WAIT_DIE, 1, 3);
        Table.script(x, 0, "r0");
        Table.script(x, 1, "r0 w0+7");
        Table.script(x, 2, "r0");
        Table.beginAll(x, 1, 0, 2);
        due.same("events", Table.events(x, 5), "2 2 2 5 3");
        due.is("holdMode(1, 0) while 2 reads", x.holdMode(1, 0), WoundWaitLocks.MODE_S);
        due.is("step() of 2", x.step(), WoundWaitLocks.EV_COMMIT);
        due.is("holdMode(1, 0)", x.holdMode(1, 0), WoundWaitLocks.MODE_X);
        due.is("F_PC of 1", x.txInfo(1, WoundWaitLocks.F_PC), 1);
        due.same("events", Table.events(x, 3), "2 5 0");
        due.is("rowValue(0)", x.rowValue(0), 7);
    }

    /** 2 wounds 0 on row 1; row 0, which 0 held as well, goes to 1. */
    private static void anAbortHandsOverOtherRows() {
        WoundWaitLocks x = new WoundWaitLocks(WoundWaitLocks.WOUND_WAIT, 3, 3);
        x.setRow(0, 20);
        Table.script(x, 0, "w0+1 w1+1 r2 r2");
        Table.script(x, 1, "r2 r2 r0");
        Table.script(x, 2, "r2 r2 r2 r1");
        Table.beginAll(x, 2, 0, 1);
        due.same("events", Table.events(x, 8), "2 2 2 2 2 2 2 3");
        due.same("queue", Table.queue(x, 0), "1");
        due.same("events", Table.events(x, 3), "2 2 2");
        due.is("lastTx()", x.lastTx(), 2);
        due.is("lastWounds()", x.lastWounds(), 1);
        due.is("queueLength(0)", x.queueLength(0), 0);
        due.is("holdMode(1, 0)", x.holdMode(1, 0), WoundWaitLocks.MODE_S);
        due.is("F_PC of 1", x.txInfo(1, WoundWaitLocks.F_PC), 2);
        due.same("events", Table.events(x, 2), "1 2");
        due.is("F_ACC of 1", x.txInfo(1, WoundWaitLocks.F_ACC), 20);
    }

    /** 1 waits for row 0 as the head, in front of the reader 2; 3 wounds 1 on row 1, and 2 gets in. */
    private static void aLeavingHeadLetsTheNextIn() {
        WoundWaitLocks x = new WoundWaitLocks(WoundWaitLocks.WOUND_WAIT, 3, 4);
        Table.script(x, 0, "r0 r0 r0");
        Table.script(x, 1, "w1+1 w0+1");
        Table.script(x, 2, "r2 r0");
        Table.script(x, 3, "r2 r2 r1");
        Table.beginAll(x, 0, 3, 1, 2);
        due.same("events up to the waits", Table.events(x, 8), "2 2 2 2 2 3 3 2");
        due.same("queue", Table.queue(x, 0), "1 2");
        due.same("events", Table.events(x, 2), "2 2");
        due.is("lastTx()", x.lastTx(), 3);
        due.is("lastWounds()", x.lastWounds(), 1);
        due.is("F_STATE of 1", x.txInfo(1, WoundWaitLocks.F_STATE), WoundWaitLocks.ST_ABORTED);
        due.is("rowValue(1)", x.rowValue(1), 0);
        due.is("queueLength(0)", x.queueLength(0), 0);
        due.is("F_STATE of 2", x.txInfo(2, WoundWaitLocks.F_STATE), WoundWaitLocks.ST_ACTIVE);
        due.is("holdMode(2, 0)", x.holdMode(2, 0), WoundWaitLocks.MODE_S);
    }
}
