/** Promise 1: the clamps of the constructor and the fresh state. */
public final class ConstructionTest {
    private static final Due due = new Due("Promise 1");

    public static void main(String[] args) {
        due.holds("new WoundWaitLocks(policy, rows, txs) never fails.", ConstructionTest::neverFails);
        due.holds("policy is clamped to 0..1: below 0 becomes 0, above 1 becomes 1.",
            ConstructionTest::policyIsClamped);
        due.holds("0 means WOUND_WAIT and 1 means WAIT_DIE.", ConstructionTest::policiesAreNumbered);
        due.holds("rows gives R, clamped to 1..16: below 1 becomes 1, above 16 becomes 16.",
            ConstructionTest::rowsAreClamped);
        due.holds("txs gives T, clamped to 2..8: below 2 becomes 2, above 8 becomes 8.",
            ConstructionTest::txsAreClamped);
        due.holds("The fresh state is:", ConstructionTest::everyObjectIsFresh);
        due.holds("all row values are 0", ConstructionTest::allValuesAreZero);
        due.holds("all transactions are ST_IDLE with empty scripts, timestamp 0, empty undo log, abort count 0,"
            + " commit rank 0, wait row -1 and wait mode MODE_NONE", ConstructionTest::allTransactionsAreIdle);
        due.holds("empty undo log", ConstructionTest::undoLogsAreEmpty);
        due.holds("no locks are held and all queues are empty", ConstructionTest::noLocksAndNoQueues);
        due.holds("the timestamp counter is 1 and there are no commits",
            ConstructionTest::counterIsOneAndCommitsAreNone);
        due.holds("the scheduler cursor is T-1, lastTx is -1 and lastWounds is 0",
            ConstructionTest::cursorIsTheLast);
        due.holds("The policy, R and T never change afterwards.", ConstructionTest::policyAndSizesStay);
        due.end();
    }

    private static int clamped(int number, int least, int most) {
        return number < least ? least : Math.min(number, most);
    }

    private static void neverFails() {
        for (int policy : Table.ANY) {
            for (int rows : Table.ANY) {
                for (int txs : Table.ANY) {
                    WoundWaitLocks x = new WoundWaitLocks(policy, rows, txs);
                    due.is("begin(1) of " + policy + ", " + rows + ", " + txs, x.begin(1), 1);
                }
            }
        }
    }

    /** What becomes of a writer that is younger than the row's holder tells the policies apart. */
    private static int youngerWritersEvent(WoundWaitLocks x) {
        Table.script(x, 0, "w0+1");
        Table.script(x, 1, "w0+2");
        Table.beginAll(x, 0, 1);
        x.step();
        return x.step();
    }

    private static void policyIsClamped() {
        for (int policy : Table.ANY) {
            int event = youngerWritersEvent(new WoundWaitLocks(policy, 1, 2));
            due.is("policy " + policy, event, policy < 1 ? WoundWaitLocks.EV_WAIT : WoundWaitLocks.EV_DIE);
        }
    }

    private static void policiesAreNumbered() {
        int woundWait = youngerWritersEvent(new WoundWaitLocks(WoundWaitLocks.WOUND_WAIT, 1, 2));
        due.is("WOUND_WAIT", WoundWaitLocks.WOUND_WAIT, 0);
        due.is("the event under it", woundWait, WoundWaitLocks.EV_WAIT);
        int waitDie = youngerWritersEvent(new WoundWaitLocks(WoundWaitLocks.WAIT_DIE, 1, 2));
        due.is("WAIT_DIE", WoundWaitLocks.WAIT_DIE, 1);
        due.is("the event under it", waitDie, WoundWaitLocks.EV_DIE);
    }

    private static void rowsAreClamped() {
        for (int rows : Table.ANY) {
            WoundWaitLocks x = new WoundWaitLocks(0, rows, 2);
            int want = clamped(rows, 1, 16);
            for (int row = 0; row < want; row++) {
                due.yes("rows " + rows + ": setRow(" + row + ", 4)", x.setRow(row, 4));
            }
            due.no("rows " + rows + ": setRow(" + want + ", 4)", x.setRow(want, 4));
            due.yes("rows " + rows + ": addOp on the last row", x.addOp(0, 1, want - 1, 0));
            due.no("rows " + rows + ": addOp beyond the last row", x.addOp(0, 1, want, 0));
        }
    }

    private static void txsAreClamped() {
        for (int txs : Table.ANY) {
            WoundWaitLocks x = new WoundWaitLocks(0, 2, txs);
            int want = clamped(txs, 2, 8);
            due.is("txs " + txs + ": begin(" + want + ")", x.begin(want), 0);
            for (int tx = 0; tx < want; tx++) {
                due.is("txs " + txs + ": begin(" + tx + ")", x.begin(tx), tx + 1);
            }
            due.is("txs " + txs + ": the steps to commit all", x.run(64), want);
        }
    }

    private static void everyObjectIsFresh() {
        String fresh = Table.future(new WoundWaitLocks(0, 2, 2));
        WoundWaitLocks used = new WoundWaitLocks(0, 2, 2);
        WoundWaitLocks beside = new WoundWaitLocks(0, 2, 2);
        used.setRow(1, 5);
        Table.script(used, 0, "r0 w1+2");
        used.begin(0);
        used.run(2);
        due.same("an object made before the other was used", Table.future(beside), fresh);
        due.same("an object made after", Table.future(new WoundWaitLocks(0, 2, 2)), fresh);
    }

    private static void allValuesAreZero() {
        for (int rows = 1; rows <= 16; rows++) {
            WoundWaitLocks x = new WoundWaitLocks(0, rows, 2);
            for (int row = 0; row < rows; row++) {
                due.is("rowValue(" + row + ") of " + rows, x.rowValue(row), 0);
            }
        }
    }

    private static void allTransactionsAreIdle() {
        for (int txs = 2; txs <= 8; txs++) {
            WoundWaitLocks x = new WoundWaitLocks(1, 16, txs);
            for (int tx = 0; tx < txs; tx++) {
                for (int field = 0; field <= 8; field++) {
                    int want = field == WoundWaitLocks.F_WAIT_ROW ? -1 : 0;
                    due.is("txInfo(" + tx + ", " + field + ") of " + txs, x.txInfo(tx, field), want);
                }
            }
        }
    }

    /** Each is aborted before it has written, so that an abort has nothing to undo. */
    private static void undoLogsAreEmpty() {
        for (int victim = 0; victim < 7; victim++) {
            WoundWaitLocks x = new WoundWaitLocks(WoundWaitLocks.WOUND_WAIT, 16, 8);
            for (int row = 0; row < 16; row++) {
                x.setRow(row, row + 100);
            }
            Table.script(x, victim, "r3 r3");
            Table.script(x, 7, "w3+1");
            Table.beginAll(x, 7, victim);
            due.same("events", Table.events(x, 2), "2 2");
            due.is("F_ABORTS of " + victim, x.txInfo(victim, WoundWaitLocks.F_ABORTS), 1);
            for (int row = 0; row < 16; row++) {
                due.is("rowValue(" + row + ")", x.rowValue(row), row == 3 ? 1 : row + 100);
            }
        }
    }

    private static void noLocksAndNoQueues() {
        WoundWaitLocks x = new WoundWaitLocks(0, 16, 8);
        for (int row = 0; row < 16; row++) {
            for (int tx = 0; tx < 8; tx++) {
                due.is("holdMode(" + tx + ", " + row + ")", x.holdMode(tx, row), WoundWaitLocks.MODE_NONE);
            }
            due.is("queueLength(" + row + ")", x.queueLength(row), 0);
            due.is("queueAt(" + row + ", 0)", x.queueAt(row, 0), -1);
        }
    }

    private static void counterIsOneAndCommitsAreNone() {
        for (int tx = 0; tx < 8; tx++) {
            WoundWaitLocks x = new WoundWaitLocks(0, 1, 8);
            due.is("commits()", x.commits(), 0);
            due.is("begin(" + tx + ")", x.begin(tx), 1);
        }
    }

    private static void cursorIsTheLast() {
        for (int txs = 2; txs <= 8; txs++) {
            WoundWaitLocks x = new WoundWaitLocks(0, 1, txs);
            due.is("lastTx() of " + txs, x.lastTx(), -1);
            due.is("lastWounds() of " + txs, x.lastWounds(), 0);
            for (int tx = txs - 1; tx >= 0; tx--) {
                x.begin(tx);
            }
            x.step();
            due.is("the first turn of " + txs, x.lastTx(), 0);
        }
    }

    /** After all else is done, the last two meet as the first two would have met. */
    private static void policyAndSizesStay() {
        for (int policy = 0; policy <= 1; policy++) {
            WoundWaitLocks x = new WoundWaitLocks(policy, 3, 5);
            Table.script(x, 0, "w0+1 w1+1");
            Table.script(x, 1, "w1+1 w0+1");
            Table.script(x, 2, "r0 w2+1");
            Table.script(x, 3, "w2+5");
            Table.script(x, 4, "w2+6");
            Table.beginAll(x, 2, 0, 1);
            x.run(64);
            due.is("commits()", x.commits(), 3);
            due.no("addOp(5, 1, 0, 0)", x.addOp(5, 1, 0, 0));
            due.no("addOp(4, 1, 3, 0)", x.addOp(4, 1, 3, 0));
            due.yes("addOp(4, 1, 2, 0)", x.addOp(4, 1, 2, 0));
            due.is("begin(5)", x.begin(5), 0);
            Table.beginAll(x, 3, 4);
            int event = policy == WoundWaitLocks.WOUND_WAIT ? WoundWaitLocks.EV_WAIT : WoundWaitLocks.EV_DIE;
            due.same("the last two's events", Table.events(x, 2), "2 " + event);
        }
    }
}
