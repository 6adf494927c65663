/** Promise 5, ABORT: what becomes of an aborted transaction, its writes, its locks and its place in a queue. */
public final class AbortTest {
    private static final Due due = new Due("Promise 5, ABORT");

    public static void main(String[] args) {
        due.holds("If v is ST_WAITING, v leaves its queue, and the others keep their order.",
            AbortTest::aWaiterLeavesItsPlace);
        due.holds("The undo log entries are restored from the last to the first, each setting value[row] = saved"
            + " value.", AbortTest::undoesInReverseOrder);
        due.holds("First append (r, value[r]) to the undo log", AbortTest::undoesAFullLogOfOneRow);
        due.holds("Then the log is emptied.", AbortTest::undoesNothingTwice);
        due.holds("(the log of the last transaction is filled and emptied again and again)",
            AbortTest::undoesAgainAndAgain);
        due.holds("All of v's locks are dropped.", AbortTest::dropsAllLocks);
        due.holds("v's state becomes ST_ABORTED, with pc 0, acc 0, wait row -1 and wait mode 0.",
            AbortTest::setsTheFieldsBack);
        due.holds("Its abort count grows by 1.", AbortTest::countsAborts);
        due.holds("HANDOFF(r) runs for r = 0, 1, .., R-1 in turn.", AbortTest::handsOverTheFirstAndTheLastRow);
        due.end();
    }

    private static WoundWaitLocks woundWait(int rows, int txs) {
        return new WoundWaitLocks(WoundWaitLocks.WOUND_WAIT, rows, txs);
    }

    /** 1, 2 and 3 wait for row 0, held by 0; 4 wounds one of them for the sake of row 1. */
    private static void aWaiterLeavesItsPlace() {
        String[] left = {"", "2 3", "1 3", "1 2"};
        for (int victim = 1; victim <= 3; victim++) {
            WoundWaitLocks x = woundWait(3, 5);
            Table.script(x, 0, "w0+1 w0+2 w0+3 w0+4");
            for (int tx = 1; tx <= 3; tx++) {
                Table.script(x, tx, (tx == victim ? "w1+1" : "r2") + " w0+1");
            }
            Table.script(x, 4, "r2 r2 r1");
            Table.beginAll(x, 0, 4, 1, 2, 3);
            due.same("events", Table.events(x, 10), "2 2 2 2 2 2 3 3 3 2");
            due.same("queue before", Table.queue(x, 0), "1 2 3");
            due.same("events", Table.events(x, 2), "2 2");
            due.is("lastWounds()", x.lastWounds(), 1);
            due.same("queue without " + victim, Table.queue(x, 0), left[victim]);
            due.is("queueAt(0, 2)", x.queueAt(0, 2), -1);
            for (int tx = 1; tx <= 3; tx++) {
                int want = tx == victim ? WoundWaitLocks.ST_ABORTED : WoundWaitLocks.ST_WAITING;
                due.is("F_STATE of " + tx, Table.state(x, tx), want);
            }
        }
    }

    /** Eight writes of 0 to three rows by turns, all of them undone by 1 right after the eighth. */
    private static void undoesInReverseOrder() {
        WoundWaitLocks x = woundWait(4, 2);
        x.setRow(0, 100);
        x.setRow(1, 200);
        x.setRow(2, 300);
        Table.script(x, 0, "w0+1 w1+2 w0+3 w2+4 w0+5 w1+6 w2+7 w2+8");
        Table.script(x, 1, "r3 r3 r3 r3 r3 r3 r3 w1+9");
        Table.beginAll(x, 1, 0);
        x.run(15);
        due.same("values before", Table.values(x, 4), "5 6 8 0");
        due.is("step() that wounds", x.step(), WoundWaitLocks.EV_OP);
        due.is("lastWounds()", x.lastWounds(), 1);
        due.same("values after", Table.values(x, 4), "100 9 300 0");
        due.same("events", Table.events(x, 2), "1 5");
        x.run(64);
        due.same("values after the second try", Table.values(x, 4), "5 6 8 0");
    }

    private static void undoesAFullLogOfOneRow() {
        for (int writes = 1; writes <= 8; writes++) {
            WoundWaitLocks x = woundWait(2, 2);
            x.setRow(0, Integer.MIN_VALUE);
            for (int i = 1; i <= writes; i++) {
                x.addOp(0, WoundWaitLocks.OP_WRITE, 0, i);
            }
            for (int i = 1; i < writes; i++) {
                x.addOp(1, WoundWaitLocks.OP_READ, 1, 0);
            }
            x.addOp(1, WoundWaitLocks.OP_READ, 0, 0);
            Table.beginAll(x, 1, 0);
            x.run(2 * writes - 1);
            due.is("rowValue(0) after " + writes + " writes", x.rowValue(0), writes);
            due.is("step() that wounds", x.step(), WoundWaitLocks.EV_OP);
            due.is("rowValue(0) when undone", x.rowValue(0), Integer.MIN_VALUE);
            due.is("F_ACC of 1", x.txInfo(1, WoundWaitLocks.F_ACC), Integer.MIN_VALUE);
        }
    }

    /** 1 is wounded twice; 2 changes row 0 for good between, which the second undo must not go behind. */
    private static void undoesNothingTwice() {
        WoundWaitLocks x = woundWait(3, 3);
        x.setRow(0, 10);
        Table.script(x, 0, "r2 r2 r2 r2 r0");
        Table.script(x, 1, "w0+1 w1+7");
        Table.script(x, 2, "r0 w0+5");
        Table.beginAll(x, 0, 2, 1);
        due.same("events up to the first wound", Table.events(x, 3), "2 2 2");
        due.is("lastWounds()", x.lastWounds(), 1);
        due.is("F_ACC of 2", x.txInfo(2, WoundWaitLocks.F_ACC), 10);
        due.same("events up to the commit of 2", Table.events(x, 6), "2 1 2 2 3 5");
        due.is("rowValue(0)", x.rowValue(0), 15);
        due.same("events up to the second write of 1", Table.events(x, 2), "2 2");
        due.is("rowValue(0)", x.rowValue(0), 1);
        due.is("step() that wounds again", x.step(), WoundWaitLocks.EV_OP);
        due.is("lastTx()", x.lastTx(), 0);
        due.is("lastWounds()", x.lastWounds(), 1);
        due.is("rowValue(0)", x.rowValue(0), 15);
        due.is("F_ACC of 0", x.txInfo(0, WoundWaitLocks.F_ACC), 15);
        due.is("F_ABORTS of 1", x.txInfo(1, WoundWaitLocks.F_ABORTS), 2);
    }

    /** 0 to 6 come one after another by way of row 2; each wounds 7 after its seventh write. */
    private static void undoesAgainAndAgain() {
        WoundWaitLocks x = woundWait(3, 8);
        x.setRow(0, 100);
        for (int tx = 0; tx < 7; tx++) {
            Table.script(x, tx, "w2+0 r1 r1 r1 r1 r1 r1 r0");
        }
        Table.script(x, 7, "w0+1 w0+2 w0+3 w0+4 w0+5 w0+6 w0+7 w0+8");
        Table.beginAll(x, 0, 1, 2, 3, 4, 5, 6, 7);
        int wounds = 0;
        for (int i = 0; i < 200; i++) {
            int before = x.rowValue(0);
            x.step();
            if (x.lastWounds() == 1) {
                due.is("rowValue(0) before wound " + wounds, before, 7);
                due.is("lastTx()", x.lastTx(), wounds);
                due.is("rowValue(0) after wound " + wounds, x.rowValue(0), 100);
                due.is("F_ACC of " + wounds, x.txInfo(wounds, WoundWaitLocks.F_ACC), 100);
                wounds++;
            }
        }
        due.is("wounds", wounds, 7);
        due.is("F_ABORTS of 7", x.txInfo(7, WoundWaitLocks.F_ABORTS), 7);
        due.is("commits()", x.commits(), 8);
        due.is("rowValue(0)", x.rowValue(0), 8);
    }

    private static void dropsAllLocks() {
        WoundWaitLocks x = woundWait(16, 2);
        Table.script(x, 0, "r0 w1+1 r2 w3+1 r12 w13+1 r14 w15+1");
        Table.script(x, 1, "r8 r8 r8 r8 r8 r8 r8 w0+1");
        Table.beginAll(x, 1, 0);
        x.run(15);
        due.is("holdMode(0, 0) before", x.holdMode(0, 0), WoundWaitLocks.MODE_S);
        due.is("holdMode(0, 15) before", x.holdMode(0, 15), WoundWaitLocks.MODE_X);
        x.step();
        due.is("lastWounds()", x.lastWounds(), 1);
        for (int row = 0; row < 16; row++) {
            due.is("holdMode(0, " + row + ")", x.holdMode(0, row), WoundWaitLocks.MODE_NONE);
        }
        due.is("holdMode(1, 0)", x.holdMode(1, 0), WoundWaitLocks.MODE_X);
        due.is("holdMode(1, 8)", x.holdMode(1, 8), WoundWaitLocks.MODE_S);
    }

    private static void fieldsAreBack(WoundWaitLocks x, int tx, int timestamp, int length) {
        int[] want = {WoundWaitLocks.ST_ABORTED, timestamp, 0, 0, 1, 0, -1, 0, length};
        for (int field = 0; field <= 8; field++) {
            due.is("txInfo(" + tx + ", " + field + ")", x.txInfo(tx, field), want[field]);
        }
    }

    /** One is wounded when active, one when waiting, and one dies. */
    private static void setsTheFieldsBack() {
        WoundWaitLocks active = woundWait(2, 2);
        active.setRow(0, 5);
        Table.script(active, 0, "r0 w1+1");
        Table.script(active, 1, "r0 w1+2");
        Table.beginAll(active, 1, 0);
        due.same("events", Table.events(active, 4), "2 2 2 2");
        fieldsAreBack(active, 0, 2, 2);

        WoundWaitLocks waiting = woundWait(2, 3);
        waiting.setRow(0, 5);
        Table.script(waiting, 0, "w1+1 w1+1 w1+1");
        Table.script(waiting, 1, "r0 r1");
        Table.script(waiting, 2, "r0 w0+2");
        Table.beginAll(waiting, 0, 2, 1);
        due.same("events", Table.events(waiting, 5), "2 2 2 2 3");
        due.is("F_WAIT_ROW before", waiting.txInfo(1, WoundWaitLocks.F_WAIT_ROW), 1);
        due.is("F_WAIT_MODE before", waiting.txInfo(1, WoundWaitLocks.F_WAIT_MODE), WoundWaitLocks.MODE_S);
        due.is("step() that wounds", waiting.step(), WoundWaitLocks.EV_OP);
        fieldsAreBack(waiting, 1, 3, 2);

        WoundWaitLocks dying = new WoundWaitLocks(WoundWaitLocks.WAIT_DIE, 2, 2);
        dying.setRow(0, 5);
        Table.script(dying, 0, "r0 w1+1 r0");
        Table.script(dying, 1, "r0 w1+2");
        Table.beginAll(dying, 0, 1);
        due.same("events", Table.events(dying, 4), "2 2 2 4");
        fieldsAreBack(dying, 1, 2, 2);
    }

    private static void countsAborts() {
        WoundWaitLocks x = new WoundWaitLocks(WoundWaitLocks.WAIT_DIE, 1, 2);
        Table.script(x, 0, "w0+1 w0+2 w0+3 w0+4 w0+5 w0+6 w0+7 w0+8");
        Table.script(x, 1, "w0+1");
        Table.beginAll(x, 0, 1);
        for (int i = 1; i <= 4; i++) {
            due.same("events", Table.events(x, 2), "2 4");
            due.is("F_ABORTS", x.txInfo(1, WoundWaitLocks.F_ABORTS), i);
            due.same("events", Table.events(x, 2), "2 1");
            due.is("F_ABORTS after the restart", x.txInfo(1, WoundWaitLocks.F_ABORTS), i);
        }
        x.run(64);
        due.is("F_ABORTS after the commit", x.txInfo(1, WoundWaitLocks.F_ABORTS), 4);
        due.is("F_ABORTS of the other", x.txInfo(0, WoundWaitLocks.F_ABORTS), 0);
    }

    /** 0 holds rows 0 and 15, for which 2 and 3 wait; it is wounded, or dies, for the sake of row 7. */
    private static void handsOverTheFirstAndTheLastRow() {
        WoundWaitLocks x = woundWait(16, 4);
        Table.script(x, 0, "w0+1 w15+1 w7+1 r8 r8 r8");
        Table.script(x, 1, "r8 r8 r8 r8 r7");
        Table.script(x, 2, "r8 r8 r8 r0");
        Table.script(x, 3, "r8 r8 r8 w15+2");
        Table.beginAll(x, 1, 0, 2, 3);
        due.is("run(17)", x.run(17), 17);
        due.same("states before", Table.states(x, 4), "1 1 2 2");
        due.is("step() that wounds", x.step(), WoundWaitLocks.EV_OP);
        handedOver(x);

        WoundWaitLocks y = new WoundWaitLocks(WoundWaitLocks.WAIT_DIE, 16, 4);
        Table.script(y, 0, "w0+1 w15+1 r8 r8 w7+1");
        Table.script(y, 1, "w7+1 r8 r8 r8 r8");
        Table.script(y, 2, "r8 r8 r8 r0");
        Table.script(y, 3, "r8 r8 r8 w15+2");
        Table.beginAll(y, 2, 3, 1, 0);
        due.is("run(16)", y.run(16), 16);
        due.same("states before", Table.states(y, 4), "1 1 2 2");
        due.is("step() of 0", y.step(), WoundWaitLocks.EV_DIE);
        handedOver(y);
    }

    private static void handedOver(WoundWaitLocks x) {
        due.same("states", Table.states(x, 4), "3 1 1 1");
        due.same("holders of row 0", Table.holders(x, 4, 0), "0 0 1 0");
        due.same("holders of row 15", Table.holders(x, 4, 15), "0 0 0 2");
        due.is("queueLength(0)", x.queueLength(0), 0);
        due.is("queueLength(15)", x.queueLength(15), 0);
        due.is("rowValue(0)", x.rowValue(0), 0);
        due.is("rowValue(15)", x.rowValue(15), 0);
    }
}
