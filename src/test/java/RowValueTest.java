/** Promise 9: rowValue. */
public final class RowValueTest {
    private static final Due due = new Due("Promise 9");

    public static void main(String[] args) {
        due.holds("answers value[row]", RowValueTest::answersEachValue);
        due.holds("(value[row], as written, undone and committed)", RowValueTest::showsWritesAndUndoes);
        due.holds("If row is outside 0..R-1, it answers 0.", RowValueTest::answersZeroOfNoRow);
        due.holds("It changes nothing.", RowValueTest::changesNothing);
        due.end();
    }

    private static WoundWaitLocks filled(int rows) {
        WoundWaitLocks x = new WoundWaitLocks(0, rows, 2);
        for (int row = 0; row < rows; row++) {
            x.setRow(row, 1000 - 77 * row);
        }
        return x;
    }

    private static void answersEachValue() {
        for (int rows = 1; rows <= 16; rows++) {
            WoundWaitLocks x = filled(rows);
            for (int row = 0; row < rows; row++) {
                due.is("rowValue(" + row + ") of " + rows, x.rowValue(row), 1000 - 77 * row);
            }
        }
        for (int value : Table.ANY) {
            WoundWaitLocks x = new WoundWaitLocks(0, 1, 2);
            x.setRow(0, value);
            due.is("rowValue(0)", x.rowValue(0), value);
        }
    }

    private static void showsWritesAndUndoes() {
        WoundWaitLocks x = new WoundWaitLocks(0, 2, 2);
        x.setRow(0, 3);
        Table.script(x, 0, "w0+8");
        Table.script(x, 1, "r0 w1+2");
        Table.beginAll(x, 1, 0);
        x.step();
        due.is("rowValue(0) when written", x.rowValue(0), 8);
        x.step();
        due.is("rowValue(0) when undone", x.rowValue(0), 3);
        x.run(64);
        due.is("rowValue(0) when committed", x.rowValue(0), 8);
        due.is("rowValue(1) when committed", x.rowValue(1), 5);
    }

    private static void answersZeroOfNoRow() {
        for (int rows = 1; rows <= 16; rows++) {
            WoundWaitLocks x = filled(rows);
            for (int row : Table.outside(rows)) {
                due.is("rowValue(" + row + ") of " + rows, x.rowValue(row), 0);
            }
        }
    }

    private static void changesNothing() {
        Situations.unchangedBy(due, "rowValue", x -> {
            for (int row : Table.ANY) {
                x.rowValue(row);
            }
        });
    }
}
