/** Promise 9: rowValue. */
public final class RowValueTest {
    private static final Due due = new Due();

    public static void main(String[] args) {
        for (int rows = 1; rows <= 16; rows++) {
            answersTheValueOfEachRow(rows);
        }
        showsWritesBeforeTheCommitAndAfterTheUndo();
        due.end();
    }

    private static void answersTheValueOfEachRow(int rows) {
        WoundWaitLocks x = new WoundWaitLocks(0, rows, 2);
        for (int row = 0; row < rows; row++) {
            x.setRow(row, 1000 - 77 * row);
        }
        String before = Table.shown(x);
        for (int row = 0; row < rows; row++) {
            due.is("rowValue(" + row + ") of " + rows, x.rowValue(row), 1000 - 77 * row);
        }
        for (int row = rows; row <= 17; row++) {
            due.is("rowValue(" + row + ") of " + rows, x.rowValue(row), 0);
        }
        for (int far : Table.FAR) {
            due.is("rowValue(" + far + ") of " + rows, x.rowValue(far), 0);
        }
        due.same("the state", Table.shown(x), before);
    }

    private static void showsWritesBeforeTheCommitAndAfterTheUndo() {
        WoundWaitLocks x = new WoundWaitLocks(0, 2, 2);
        x.setRow(0, 3);
        Table.script(x, 0, "w0+8");
        Table.script(x, 1, "r0 w1+2");
        Table.beginAll(x, 1, 0);
        x.step();
        due.is("rowValue(0) when written", x.rowValue(0), 8);
        x.step();
        due.is("rowValue(0) when undone", x.rowValue(0), 3);
        x.run(64);
        due.is("rowValue(0) when committed", x.rowValue(0), 8);
        due.is("rowValue(1) when committed", x.rowValue(1), 5);
    }
}
