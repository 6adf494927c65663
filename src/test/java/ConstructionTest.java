/** Promise 1: the clamps of the constructor and the fresh state. */
public final class ConstructionTest {
    private static final Due due = new Due();

    public static void main(String[] args) {
        int[] sizes = {Integer.MIN_VALUE, -1, 0, 1, 2, 3, 7, 8, 9, 15, 16, 17, 100, Integer.MAX_VALUE};
        for (int size : sizes) {
            rowsAreClamped(size);
            txsAreClamped(size);
        }
        for (int policy : new int[] {Integer.MIN_VALUE, -1, 0}) {
            policyIs(policy, WoundWaitLocks.WOUND_WAIT);
        }
        for (int policy : new int[] {1, 2, 3, Integer.MAX_VALUE}) {
            policyIs(policy, WoundWaitLocks.WAIT_DIE);
        }
        freshStateOf(0, 1, 2);
        freshStateOf(1, 5, 3);
        freshStateOf(9, 99, 99);
        firstTurnIsOfTransactionZero();
        objectsShareNothing();
        due.end();
    }

    private static void rowsAreClamped(int rows) {
        WoundWaitLocks x = new WoundWaitLocks(0, rows, 2);
        int want = rows < 1 ? 1 : Math.min(rows, 16);
        due.yes("rows " + rows + ": setRow of the last row", x.setRow(want - 1, 4));
        due.no("rows " + rows + ": setRow beyond the last row", x.setRow(want, 4));
        due.yes("rows " + rows + ": addOp on the last row", x.addOp(0, 1, want - 1, 0));
        due.no("rows " + rows + ": addOp beyond the last row", x.addOp(0, 1, want, 0));
    }

    private static void txsAreClamped(int txs) {
        WoundWaitLocks x = new WoundWaitLocks(0, 2, txs);
        int want = txs < 2 ? 2 : Math.min(txs, 8);
        due.is("txs " + txs + ": begin beyond the last", x.begin(want), 0);
        due.is("txs " + txs + ": begin of the last", x.begin(want - 1), 1);
        due.is("txs " + txs + ": begin of the first", x.begin(0), 2);
    }

    private static void policyIs(int policy, int want) {
        WoundWaitLocks x = new WoundWaitLocks(policy, 1, 2);
        Table.script(x, 0, "w0+1");
        Table.script(x, 1, "w0+2");
        Table.beginAll(x, 0, 1);
        x.step();
        int event = want == WoundWaitLocks.WAIT_DIE ? WoundWaitLocks.EV_DIE : WoundWaitLocks.EV_WAIT;
        due.is("policy " + policy + ": the younger one's event", x.step(), event);
    }

    private static void freshStateOf(int policy, int rows, int txs) {
        WoundWaitLocks x = new WoundWaitLocks(policy, rows, txs);
        for (int tx = 0; tx < Math.min(txs, 8); tx++) {
            for (int field = 0; field <= 8; field++) {
                int want = field == WoundWaitLocks.F_WAIT_ROW ? -1 : 0;
                due.is("fresh txInfo(" + tx + ", " + field + ")", x.txInfo(tx, field), want);
            }
            for (int row = 0; row < 16; row++) {
                due.is("fresh holdMode(" + tx + ", " + row + ")", x.holdMode(tx, row), 0);
            }
        }
        for (int row = 0; row < 16; row++) {
            due.is("fresh rowValue(" + row + ")", x.rowValue(row), 0);
            due.is("fresh queueLength(" + row + ")", x.queueLength(row), 0);
            due.is("fresh queueAt(" + row + ", 0)", x.queueAt(row, 0), -1);
        }
        due.is("fresh commits()", x.commits(), 0);
        due.is("fresh lastTx()", x.lastTx(), -1);
        due.is("fresh lastWounds()", x.lastWounds(), 0);
        due.is("fresh begin(1)", x.begin(1), 1);
    }

    private static void firstTurnIsOfTransactionZero() {
        for (int txs = 2; txs <= 8; txs++) {
            WoundWaitLocks x = new WoundWaitLocks(0, 1, txs);
            for (int tx = txs - 1; tx >= 0; tx--) {
                x.begin(tx);
            }
            x.step();
            due.is("the first turn of " + txs, x.lastTx(), 0);
        }
    }

    private static void objectsShareNothing() {
        WoundWaitLocks x = new WoundWaitLocks(0, 2, 2);
        WoundWaitLocks y = new WoundWaitLocks(0, 2, 2);
        String fresh = Table.shown(y);
        x.setRow(1, 5);
        Table.script(x, 0, "r0 w1+2");
        x.begin(0);
        x.run(2);
        due.same("another object's state", Table.shown(y), fresh);
    }
}
