/** Promise 5, HANDOFF: whom a row is handed to when locks are dropped, and whom not. */
public final class HandoffTest {
    private static final Due due = new Due("Promise 5, HANDOFF");

    public static void main(String[] args) {
        due.holds("Repeat while r's queue is not empty.", HandoffTest::emptiesAQueueOfReaders);
        due.holds("(HANDOFF of rows with an empty queue does nothing)", HandoffTest::anEmptyQueueStaysEmpty);
        due.holds("m = S and no transaction other than h holds X on r", HandoffTest::aReaderComesInBesideReaders);
        due.holds("m = X and no transaction other than h holds any lock on r", HandoffTest::aWriterComesInAlone);
        due.holds("no transaction other than h", HandoffTest::theHeadsOwnSharedLockIsNoHindrance);
        due.holds("When h is admitted, it is removed from the queue, its lock on r is set to m, and it becomes"
            + " ST_ACTIVE with wait row -1 and wait mode 0.", HandoffTest::theAdmittedIsActive);
        due.holds("Its pc is unchanged, so its operation runs on its next turn.", HandoffTest::theOperationRunsLater);
        due.holds("When h cannot be admitted, HANDOFF(r) stops.", HandoffTest::aHeadThatMustWaitHoldsUpTheRest);
        due.holds("Then HANDOFF(r) runs for r = 0..R-1.", HandoffTest::admitsOnEveryRow);
        due.end();
    }

    /** The first writes; the rest line up behind it, in an order of ages that lets all of them wait. */
    private static WoundWaitLocks lined(int policy, int txs, String... scripts) {
        WoundWaitLocks x = new WoundWaitLocks(policy, 2, txs);
        for (int tx = 0; tx < txs; tx++) {
            Table.script(x, tx, scripts[Math.min(tx, scripts.length - 1)]);
        }
        for (int i = 0; i < txs; i++) {
            x.begin(policy == WoundWaitLocks.WOUND_WAIT ? i : txs - 1 - i);
        }
        return x;
    }

    private static void emptiesAQueueOfReaders() {
        for (int policy = 0; policy <= 1; policy++) {
            WoundWaitLocks x = lined(policy, 8, "w0+4", "r0");
            due.same("events", Table.events(x, 8), "2 3 3 3 3 3 3 3");
            due.same("queue", Table.queue(x, 0), "1 2 3 4 5 6 7");
            due.is("step() of the holder", x.step(), WoundWaitLocks.EV_COMMIT);
            due.is("queueLength(0)", x.queueLength(0), 0);
            due.same("holders", Table.holders(x, 8, 0), "0 1 1 1 1 1 1 1");
            due.same("states", Table.states(x, 8), "4 1 1 1 1 1 1 1");
        }
    }

    private static void anEmptyQueueStaysEmpty() {
        for (int policy = 0; policy <= 1; policy++) {
            WoundWaitLocks x = new WoundWaitLocks(policy, 16, 8);
            for (int tx = 0; tx < 8; tx++) {
                Table.script(x, tx, "r" + tx + " w" + (tx + 8) + "+1");
                x.begin(tx);
            }
            x.run(16);
            due.is("step() of 0", x.step(), WoundWaitLocks.EV_COMMIT);
            for (int row = 0; row < 16; row++) {
                due.is("queueLength(" + row + ")", x.queueLength(row), 0);
                int want = row < 8 ? WoundWaitLocks.MODE_S : WoundWaitLocks.MODE_X;
                due.is("the holder of " + row, x.holdMode(row % 8, row), row % 8 == 0 ? 0 : want);
            }
            due.same("states", Table.states(x, 8), "4 1 1 1 1 1 1 1");
        }
    }

    /** 0 reads row 0; 1 waits to write it, in front of the reader 2; 3 wounds 1 on row 1, and 2 gets in. */
    private static void aReaderComesInBesideReaders() {
        WoundWaitLocks x = new WoundWaitLocks(WoundWaitLocks.WOUND_WAIT, 3, 4);
        Table.script(x, 0, "r0 r0 r0");
        Table.script(x, 1, "w1+1 w0+1");
        Table.script(x, 2, "r2 r0");
        Table.script(x, 3, "r2 r2 r1");
        Table.beginAll(x, 0, 3, 1, 2);
        due.same("events up to the waits", Table.events(x, 8), "2 2 2 2 2 3 3 2");
        due.same("queue", Table.queue(x, 0), "1 2");
        due.same("events", Table.events(x, 2), "2 2");
        due.is("lastTx()", x.lastTx(), 3);
        due.is("lastWounds()", x.lastWounds(), 1);
        due.same("states", Table.states(x, 4), "1 3 1 1");
        due.is("rowValue(1)", x.rowValue(1), 0);
        due.is("queueLength(0)", x.queueLength(0), 0);
        due.same("holders", Table.holders(x, 4, 0), "1 0 1 0");
    }

    private static void aWriterComesInAlone() {
        for (int policy = 0; policy <= 1; policy++) {
            WoundWaitLocks x = lined(policy, 4, "r0", "r0 r0", "w0+1", "w0+2");
            due.same("events", Table.events(x, 5), "2 2 3 3 5");
            due.same("queue with one reader left", Table.queue(x, 0), "2 3");
            due.same("holders with one reader left", Table.holders(x, 4, 0), "0 1 0 0");
            due.same("events", Table.events(x, 2), "2 5");
            due.same("queue with the writer in", Table.queue(x, 0), "3");
            due.same("holders with the writer in", Table.holders(x, 4, 0), "0 0 2 0");
            due.same("events", Table.events(x, 2), "2 5");
            due.same("queue with the next writer in", Table.queue(x, 0), "");
            due.same("holders with the next writer in", Table.holders(x, 4, 0), "0 0 0 2");
        }
    }

    private static void theHeadsOwnSharedLockIsNoHindrance() {
        for (int policy = 0; policy <= 1; policy++) {
            WoundWaitLocks x = lined(policy, 2, "r0 r0", "r0 w0+7");
            due.same("events", Table.events(x, 4), "2 2 2 3");
            due.same("holders", Table.holders(x, 2, 0), "1 1");
            due.is("step() of 0", x.step(), WoundWaitLocks.EV_COMMIT);
            due.same("holders after the handoff", Table.holders(x, 2, 0), "0 2");
            due.is("F_PC of 1", x.txInfo(1, WoundWaitLocks.F_PC), 1);
            due.same("events", Table.events(x, 3), "2 5 0");
            due.is("rowValue(0)", x.rowValue(0), 7);
        }
    }

    private static void theAdmittedIsActive() {
        for (int policy = 0; policy <= 1; policy++) {
            String[] asked = {"r0", "w0+1"};
            for (int i = 0; i < 2; i++) {
                WoundWaitLocks x = lined(policy, 2, "w0+1", asked[i]);
                due.same("events", Table.events(x, 3), "2 3 5");
                due.is("queueLength(0)", x.queueLength(0), 0);
                due.is("holdMode(1, 0)", x.holdMode(1, 0), i + 1);
                due.is("F_STATE", Table.state(x, 1), WoundWaitLocks.ST_ACTIVE);
                due.is("F_WAIT_ROW", x.txInfo(1, WoundWaitLocks.F_WAIT_ROW), -1);
                due.is("F_WAIT_MODE", x.txInfo(1, WoundWaitLocks.F_WAIT_MODE), WoundWaitLocks.MODE_NONE);
            }
        }
    }

    private static void theOperationRunsLater() {
        for (int policy = 0; policy <= 1; policy++) {
            WoundWaitLocks x = lined(policy, 3, "w0+4 w0+5", "r1 w0+1", "r1 r1 r1 r1");
            due.same("events", Table.events(x, 7), "2 2 2 2 3 2 5");
            due.is("F_PC of 1", x.txInfo(1, WoundWaitLocks.F_PC), 1);
            due.is("rowValue(0) before its turn", x.rowValue(0), 5);
            due.is("step() of 1", x.step(), WoundWaitLocks.EV_OP);
            due.is("lastTx()", x.lastTx(), 1);
            due.is("F_PC of 1 after its turn", x.txInfo(1, WoundWaitLocks.F_PC), 2);
            due.is("rowValue(0) after its turn", x.rowValue(0), 1);
        }
    }

    /** A writer, as the head, must wait for a reader; the reader behind it could share but does not come in. */
    private static void aHeadThatMustWaitHoldsUpTheRest() {
        for (int policy = 0; policy <= 1; policy++) {
            WoundWaitLocks x = lined(policy, 5, "r0", "r0 r0 r0", "w0+1", "r0", "r0");
            due.same("events", Table.events(x, 6), "2 2 3 3 3 5");
            due.same("queue after a reader's commit", Table.queue(x, 0), "2 3 4");
            due.same("holders", Table.holders(x, 5, 0), "0 1 0 0 0");
            due.same("events", Table.events(x, 3), "2 2 5");
            due.same("queue after the last reader's commit", Table.queue(x, 0), "3 4");
            due.same("holders", Table.holders(x, 5, 0), "0 0 2 0 0");
            due.same("events", Table.events(x, 2), "2 5");
            due.same("queue after the writer's commit", Table.queue(x, 0), "");
            due.same("holders", Table.holders(x, 5, 0), "0 0 0 1 1");
        }
        WoundWaitLocks y = lined(WoundWaitLocks.WAIT_DIE, 5, "w0+4", "r0", "r0", "w0+1", "r0");
        due.same("events", Table.events(y, 6), "2 3 3 3 3 5");
        due.same("queue after the readers in front came in", Table.queue(y, 0), "3 4");
        due.same("holders", Table.holders(y, 5, 0), "0 1 1 0 0");
    }

    private static void admitsOnEveryRow() {
        WoundWaitLocks x = new WoundWaitLocks(WoundWaitLocks.WOUND_WAIT, 16, 8);
        int[] rows = {15, 0, 7, 14, 3, 1, 8};
        Table.script(x, 0, "w15+1 w0+1 w7+1 w14+1 w3+1 w1+1 w8+1");
        x.begin(0);
        x.run(7);
        for (int tx = 1; tx < 8; tx++) {
            Table.script(x, tx, "r" + rows[tx - 1]);
            x.begin(tx);
        }
        due.same("events", Table.events(x, 7), "3 3 3 3 3 3 3");
        due.is("step() of the holder", x.step(), WoundWaitLocks.EV_COMMIT);
        due.same("states", Table.states(x, 8), "4 1 1 1 1 1 1 1");
        for (int tx = 1; tx < 8; tx++) {
            due.is("queueLength(" + rows[tx - 1] + ")", x.queueLength(rows[tx - 1]), 0);
            due.is("holdMode of " + tx, x.holdMode(tx, rows[tx - 1]), WoundWaitLocks.MODE_S);
        }
    }
}
