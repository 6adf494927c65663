/** Promise 7: txInfo. */
public final class TxInfoTest {
    private static final Due due = new Due("Promise 7");

    public static void main(String[] args) {
        due.holds("answers one field of tx", TxInfoTest::everyFieldInEveryState);
        due.holds("and changes nothing", TxInfoTest::changesNothing);
        due.holds("the ST_ constant of tx's state", TxInfoTest::statesAreTheConstants);
        due.holds("the timestamp; 0 while ST_IDLE", TxInfoTest::timestampIsZeroWhileIdle);
        due.holds("the program counter", TxInfoTest::pcCountsOperations);
        due.holds("the accumulator", TxInfoTest::accSumsReads);
        due.holds("the number of times ABORT was applied to tx", TxInfoTest::abortsAreCounted);
        due.holds("the commit rank; 0 unless committed", TxInfoTest::rankIsZeroUnlessCommitted);
        due.holds("the wait row; -1 unless ST_WAITING", TxInfoTest::waitRowIsMinusOneUnlessWaiting);
        due.holds("the wait mode as a MODE_ constant; MODE_NONE unless ST_WAITING",
            TxInfoTest::waitModeIsNoneUnlessWaiting);
        due.holds("the script length", TxInfoTest::lengthIsFromZeroToEight);
        due.holds("If tx is outside 0..T-1", TxInfoTest::answersZeroOfNoTransaction);
        due.holds("or field is outside 0..8, it answers 0.", TxInfoTest::answersZeroOfNoField);
        due.end();
    }

    private static void fieldsOf(String when, WoundWaitLocks x, int tx, int... want) {
        for (int field = 0; field <= 8; field++) {
            due.is(when + ": txInfo(" + tx + ", " + field + ")", x.txInfo(tx, field), want[field]);
        }
    }

    private static void everyFieldInEveryState() {
        WoundWaitLocks x = new WoundWaitLocks(WoundWaitLocks.WOUND_WAIT, 3, 4);
        x.setRow(1, 11);
        Table.script(x, 0, "r1 w2+1");
        Table.script(x, 1, "r1 w2+2 r1");
        Table.script(x, 2, "r1 r2");
        Table.script(x, 3, "r0 r0 r0 r0");
        fieldsOf("idle", x, 0, 0, 0, 0, 0, 0, 0, -1, 0, 2);
        fieldsOf("idle", x, 3, 0, 0, 0, 0, 0, 0, -1, 0, 4);
        Table.beginAll(x, 1, 0, 2);
        fieldsOf("begun", x, 0, 1, 2, 0, 0, 0, 0, -1, 0, 2);
        x.run(3);
        fieldsOf("after a read", x, 0, 1, 2, 1, 11, 0, 0, -1, 0, 2);
        due.same("events", Table.events(x, 2), "2 2");
        due.is("lastWounds()", x.lastWounds(), 1);
        fieldsOf("wounded", x, 0, 3, 2, 0, 0, 1, 0, -1, 0, 2);
        fieldsOf("wounding", x, 1, 1, 1, 2, 11, 0, 0, -1, 0, 3);
        due.is("step() of 2", x.step(), WoundWaitLocks.EV_WAIT);
        fieldsOf("waiting", x, 2, 2, 3, 1, 11, 0, 0, 2, 1, 2);
        due.same("events", Table.events(x, 3), "1 2 2");
        fieldsOf("restarted, with a read", x, 0, 1, 2, 1, 11, 1, 0, -1, 0, 2);
        due.same("events", Table.events(x, 1), "5");
        fieldsOf("committed", x, 1, 4, 1, 3, 22, 0, 1, -1, 0, 3);
        fieldsOf("admitted", x, 2, 1, 3, 1, 11, 0, 0, -1, 0, 2);
        x.run(64);
        due.is("commits()", x.commits(), 3);
        fieldsOf("still idle", x, 3, 0, 0, 0, 0, 0, 0, -1, 0, 4);
    }

    private static void changesNothing() {
        Situations.unchangedBy(due, "txInfo", x -> {
            for (int tx : Table.ANY) {
                for (int field : Table.ANY) {
                    x.txInfo(tx, field);
                }
            }
        });
    }

    /** Transaction 1 acts, dies, restarts, acts, waits, is admitted, acts and commits; a field after each step. */
    private static void throughALife(int field, int... want) {
        WoundWaitLocks x = new WoundWaitLocks(WoundWaitLocks.WAIT_DIE, 3, 3);
        x.setRow(2, 7);
        Table.script(x, 0, "r2 w0+1 w0+2");
        Table.script(x, 1, "r2 w0+1 w1+1 r0");
        Table.script(x, 2, "w1+1 w1+1 w1+1 w1+1 w1+1 w1+1");
        Table.beginAll(x, 0, 1, 2);
        for (int i = 0; i < want.length; i++) {
            due.is("txInfo(1, " + field + ") after " + i + " steps", x.txInfo(1, field), want[i]);
            x.step();
        }
    }

    private static void statesAreTheConstants() {
        due.is("F_STATE of an idle one", Table.state(new WoundWaitLocks(0, 1, 2), 1), WoundWaitLocks.ST_IDLE);
        int active = WoundWaitLocks.ST_ACTIVE;
        int aborted = WoundWaitLocks.ST_ABORTED;
        int waiting = WoundWaitLocks.ST_WAITING;
        throughALife(WoundWaitLocks.F_STATE, active, active, active, active, active, aborted, aborted, aborted,
            active, active, active, active, active, active, active, waiting, waiting, active, active, active,
            WoundWaitLocks.ST_COMMITTED);
    }

    private static void pcCountsOperations() {
        throughALife(WoundWaitLocks.F_PC, 0, 0, 1, 1, 1, 0, 0, 0, 0, 0, 0, 1, 1, 2, 2, 2, 2, 2, 3, 4, 4);
    }

    private static void accSumsReads() {
        throughALife(WoundWaitLocks.F_ACC, 0, 0, 7, 7, 7, 0, 0, 0, 0, 0, 0, 7, 7, 7, 7, 7, 7, 7, 7, 15, 15);
    }

    private static void timestampIsZeroWhileIdle() {
        WoundWaitLocks x = new WoundWaitLocks(0, 1, 8);
        for (int tx = 7; tx >= 0; tx--) {
            Table.script(x, tx, "r0");
            due.is("F_TIMESTAMP of " + tx, Table.timestamp(x, tx), 0);
            x.begin(tx);
            due.is("F_TIMESTAMP of " + tx, Table.timestamp(x, tx), 8 - tx);
            x.run(2);
            due.is("F_TIMESTAMP of " + tx + " when committed", Table.timestamp(x, tx), 8 - tx);
        }
    }

    private static void abortsAreCounted() {
        WoundWaitLocks x = new WoundWaitLocks(WoundWaitLocks.WAIT_DIE, 1, 2);
        Table.script(x, 0, "w0+1 w0+2 w0+3 w0+4 w0+5");
        Table.script(x, 1, "w0+1");
        Table.beginAll(x, 0, 1);
        due.is("F_ABORTS at first", x.txInfo(1, WoundWaitLocks.F_ABORTS), 0);
        due.same("events", Table.events(x, 10), "2 4 2 1 2 4 2 1 2 4");
        due.is("F_ABORTS", x.txInfo(1, WoundWaitLocks.F_ABORTS), 3);
        x.run(64);
        due.is("F_ABORTS after the commit", x.txInfo(1, WoundWaitLocks.F_ABORTS), 3);
        due.is("F_ABORTS of the other", x.txInfo(0, WoundWaitLocks.F_ABORTS), 0);
    }

    private static void rankIsZeroUnlessCommitted() {
        WoundWaitLocks x = new WoundWaitLocks(0, 1, 3);
        Table.script(x, 1, "r0");
        Table.beginAll(x, 0, 1);
        due.is("F_COMMIT_RANK when active", x.txInfo(0, WoundWaitLocks.F_COMMIT_RANK), 0);
        x.step();
        due.is("F_COMMIT_RANK when committed", x.txInfo(0, WoundWaitLocks.F_COMMIT_RANK), 1);
        due.is("F_COMMIT_RANK of an active one", x.txInfo(1, WoundWaitLocks.F_COMMIT_RANK), 0);
        due.is("F_COMMIT_RANK of an idle one", x.txInfo(2, WoundWaitLocks.F_COMMIT_RANK), 0);
        x.run(2);
        due.is("F_COMMIT_RANK of the second", x.txInfo(1, WoundWaitLocks.F_COMMIT_RANK), 2);
        due.is("F_COMMIT_RANK of the first", x.txInfo(0, WoundWaitLocks.F_COMMIT_RANK), 1);
    }

    /** One waits on each row in turn, the first and the last among them. */
    private static void waitRowIsMinusOneUnlessWaiting() {
        for (int row = 0; row < 16; row++) {
            WoundWaitLocks x = new WoundWaitLocks(0, 16, 3);
            Table.script(x, 0, "w" + row + "+1");
            Table.script(x, 1, "w" + row + "+1");
            Table.beginAll(x, 0, 1);
            x.step();
            due.is("F_WAIT_ROW before", x.txInfo(1, WoundWaitLocks.F_WAIT_ROW), -1);
            x.step();
            due.is("F_WAIT_ROW", x.txInfo(1, WoundWaitLocks.F_WAIT_ROW), row);
            due.is("F_WAIT_ROW of the holder", x.txInfo(0, WoundWaitLocks.F_WAIT_ROW), -1);
            due.is("F_WAIT_ROW of an idle one", x.txInfo(2, WoundWaitLocks.F_WAIT_ROW), -1);
            x.step();
            due.is("F_WAIT_ROW of a committed one", x.txInfo(0, WoundWaitLocks.F_WAIT_ROW), -1);
            due.is("F_WAIT_ROW after", x.txInfo(1, WoundWaitLocks.F_WAIT_ROW), -1);
        }
    }

    private static void waitModeIsNoneUnlessWaiting() {
        for (int kind = 1; kind <= 2; kind++) {
            WoundWaitLocks x = new WoundWaitLocks(0, 1, 3);
            x.addOp(0, WoundWaitLocks.OP_WRITE, 0, 1);
            x.addOp(1, kind, 0, 1);
            Table.beginAll(x, 0, 1);
            x.step();
            due.is("F_WAIT_MODE before", x.txInfo(1, WoundWaitLocks.F_WAIT_MODE), WoundWaitLocks.MODE_NONE);
            x.step();
            int mode = kind == WoundWaitLocks.OP_READ ? WoundWaitLocks.MODE_S : WoundWaitLocks.MODE_X;
            due.is("F_WAIT_MODE", x.txInfo(1, WoundWaitLocks.F_WAIT_MODE), mode);
            due.is("F_WAIT_MODE of the holder", x.txInfo(0, WoundWaitLocks.F_WAIT_MODE), 0);
            x.step();
            due.is("F_WAIT_MODE after", x.txInfo(1, WoundWaitLocks.F_WAIT_MODE), WoundWaitLocks.MODE_NONE);
        }
    }

    private static void lengthIsFromZeroToEight() {
        for (int length = 0; length <= 8; length++) {
            WoundWaitLocks x = new WoundWaitLocks(0, 1, 2);
            for (int i = 0; i < length; i++) {
                x.addOp(1, WoundWaitLocks.OP_READ, 0, 0);
            }
            due.is("F_LENGTH", x.txInfo(1, WoundWaitLocks.F_LENGTH), length);
            due.is("F_LENGTH of the other", x.txInfo(0, WoundWaitLocks.F_LENGTH), 0);
            x.begin(1);
            x.run(64);
            due.is("F_LENGTH when committed", x.txInfo(1, WoundWaitLocks.F_LENGTH), length);
        }
    }

    /** F_WAIT_ROW too is 0 there, not -1. */
    private static void answersZeroOfNoTransaction() {
        for (int txs = 2; txs <= 8; txs++) {
            WoundWaitLocks x = new WoundWaitLocks(0, 1, txs);
            for (int tx = 0; tx < txs; tx++) {
                Table.script(x, tx, "r0 w0+1");
                x.begin(tx);
            }
            x.run(txs + 1);
            for (int tx : Table.outside(txs)) {
                for (int field = -1; field <= 9; field++) {
                    due.is("txInfo(" + tx + ", " + field + ") of " + txs, x.txInfo(tx, field), 0);
                }
            }
        }
    }

    private static void answersZeroOfNoField() {
        for (int number = 0; number < Situations.COUNT; number++) {
            WoundWaitLocks x = Situations.make(number);
            for (int tx = -1; tx <= Situations.TXS; tx++) {
                for (int field : Table.outside(9)) {
                    due.is("txInfo(" + tx + ", " + field + ")", x.txInfo(tx, field), 0);
                }
            }
        }
    }
}
