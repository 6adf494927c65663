/** Promise 8: holdMode. */
public final class HoldModeTest {
    private static final Due due = new Due("Promise 8");

    public static void main(String[] args) {
        due.holds("answers the lock tx holds on row: MODE_NONE, MODE_S or MODE_X", HoldModeTest::answersEachLock);
        due.holds("If tx is outside 0..T-1", HoldModeTest::answersNoneOfNoTransaction);
        due.holds("or row is outside 0..R-1, it answers MODE_NONE.", HoldModeTest::answersNoneOfNoRow);
        due.holds("It changes nothing.", HoldModeTest::changesNothing);
        due.end();
    }

    /** Transaction tx reads row tx and writes row tx + 8, so that no two cells are alike by chance. */
    private static void answersEachLock() {
        WoundWaitLocks x = new WoundWaitLocks(0, 16, 8);
        for (int tx = 0; tx < 8; tx++) {
            Table.script(x, tx, "r" + tx + " w" + (tx + 8) + "+1");
            x.begin(tx);
        }
        for (int round = 0; round <= 3; round++) {
            for (int tx = 0; tx < 8; tx++) {
                for (int row = 0; row < 16; row++) {
                    boolean reads = row == tx && (round == 1 || round == 2);
                    boolean writes = row == tx + 8 && round == 2;
                    int want = reads ? WoundWaitLocks.MODE_S : writes ? WoundWaitLocks.MODE_X : 0;
                    due.is("holdMode(" + tx + ", " + row + ") in round " + round, x.holdMode(tx, row), want);
                }
            }
            x.run(8);
        }
    }

    /** All transactions hold a lock on every row, up to eight rows. */
    private static WoundWaitLocks allLocked(int rows, int txs) {
        WoundWaitLocks x = new WoundWaitLocks(0, rows, txs);
        int reads = Math.min(rows, 8);
        for (int tx = 0; tx < txs; tx++) {
            for (int i = 0; i < reads; i++) {
                x.addOp(tx, WoundWaitLocks.OP_READ, rows - 1 - i, 0);
            }
            x.begin(tx);
        }
        x.run(reads * txs);
        return x;
    }

    private static void answersNoneOfNoTransaction() {
        for (int txs = 2; txs <= 8; txs++) {
            WoundWaitLocks x = allLocked(8, txs);
            due.is("holdMode of the last", x.holdMode(txs - 1, 7), WoundWaitLocks.MODE_S);
            for (int tx : Table.outside(txs)) {
                for (int row = -17; row <= 33; row++) {
                    due.is("holdMode(" + tx + ", " + row + ") of " + txs, x.holdMode(tx, row), 0);
                }
            }
        }
    }

    private static void answersNoneOfNoRow() {
        for (int rows = 1; rows <= 16; rows++) {
            WoundWaitLocks x = allLocked(rows, 8);
            due.is("holdMode on the last row", x.holdMode(7, rows - 1), WoundWaitLocks.MODE_S);
            for (int row : Table.outside(rows)) {
                for (int tx = -9; tx <= 17; tx++) {
                    due.is("holdMode(" + tx + ", " + row + ") of " + rows, x.holdMode(tx, row), 0);
                }
            }
        }
    }

    private static void changesNothing() {
        Situations.unchangedBy(due, "holdMode", x -> {
            for (int tx : Table.ANY) {
                for (int row : Table.ANY) {
                    x.holdMode(tx, row);
                }
            }
        });
    }
}
