/** Promise 8: holdMode. */
public final class HoldModeTest {
    private static final Due due = new Due();

    public static void main(String[] args) {
        answersTheLockOfEachCell();
        answersNoneOutside();
        due.end();
    }

    /** Transaction tx reads row tx and writes row tx + 8, so that no two cells are alike by chance. */
    private static WoundWaitLocks fullTable() {
        WoundWaitLocks x = new WoundWaitLocks(0, 16, 8);
        for (int tx = 0; tx < 8; tx++) {
            Table.script(x, tx, "r" + tx + " w" + (tx + 8) + "+1");
            x.begin(tx);
        }
        return x;
    }

    private static void answersTheLockOfEachCell() {
        WoundWaitLocks x = fullTable();
        for (int round = 0; round <= 3; round++) {
            for (int tx = 0; tx < 8; tx++) {
                for (int row = 0; row < 16; row++) {
                    boolean reads = row == tx && (round == 1 || round == 2);
                    boolean writes = row == tx + 8 && round == 2;
                    int want = reads ? WoundWaitLocks.MODE_S : writes ? WoundWaitLocks.MODE_X : 0;
                    due.is("holdMode(" + tx + ", " + row + ") in round " + round, x.holdMode(tx, row), want);
                }
            }
            x.run(8);
        }
    }

    private static void answersNoneOutside() {
        WoundWaitLocks x = new WoundWaitLocks(0, 4, 3);
        for (int tx = 0; tx < 3; tx++) {
            Table.script(x, tx, "r0 r3 r1 r2");
            x.begin(tx);
        }
        x.run(12);
        String before = Table.shown(x);
        for (int i = 0; i < 4; i++) {
            due.is("holdMode(3, " + i + ")", x.holdMode(3, i), 0);
            due.is("holdMode(-1, " + i + ")", x.holdMode(-1, i), 0);
            for (int far : Table.FAR) {
                due.is("holdMode(" + far + ", " + i + ")", x.holdMode(far, i), 0);
                due.is("holdMode(" + i + ", " + far + ")", x.holdMode(i, far), 0);
                due.is("holdMode(" + far + ", " + far + ")", x.holdMode(far, far), 0);
            }
        }
        for (int tx = 0; tx < 3; tx++) {
            due.is("holdMode(" + tx + ", 4)", x.holdMode(tx, 4), 0);
            due.is("holdMode(" + tx + ", 16)", x.holdMode(tx, 16), 0);
            due.is("holdMode(" + tx + ", -1)", x.holdMode(tx, -1), 0);
            due.is("holdMode(" + tx + ", -16)", x.holdMode(tx, -16), 0);
            due.is("holdMode(" + tx + ", 3)", x.holdMode(tx, 3), WoundWaitLocks.MODE_S);
        }
        due.same("the state", Table.shown(x), before);
    }
}
