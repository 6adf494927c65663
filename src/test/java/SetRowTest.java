/** Promise 2: setRow. */
public final class SetRowTest {
    private static final Due due = new Due();

    public static void main(String[] args) {
        setsAnyValueOfAnyRow();
        refusesRowsOutside();
        isRefusedForeverAfterABegin();
        due.end();
    }

    private static void setsAnyValueOfAnyRow() {
        WoundWaitLocks x = new WoundWaitLocks(0, 16, 8);
        String fresh = Table.shown(x);
        int[] values = {1, -1, 7, Integer.MAX_VALUE, Integer.MIN_VALUE, 0};
        for (int row = 0; row < 16; row++) {
            for (int value : values) {
                due.yes("setRow(" + row + ", " + value + ")", x.setRow(row, value));
                due.is("rowValue(" + row + ")", x.rowValue(row), value);
            }
        }
        due.same("the state after setting all back to 0", Table.shown(x), fresh);
        x.setRow(3, 33);
        x.setRow(4, 44);
        due.is("rowValue(3) beside row 4", x.rowValue(3), 33);
        due.is("rowValue(5) beside row 4", x.rowValue(5), 0);
    }

    private static void refusesRowsOutside() {
        WoundWaitLocks x = new WoundWaitLocks(0, 5, 2);
        x.setRow(0, 9);
        x.setRow(4, 8);
        String before = Table.shown(x);
        due.no("setRow(5, 1)", x.setRow(5, 1));
        due.no("setRow(15, 1)", x.setRow(15, 1));
        for (int row : Table.FAR) {
            due.no("setRow(" + row + ", 1)", x.setRow(row, 1));
        }
        due.same("the state after refused calls", Table.shown(x), before);
        due.yes("setRow(0, 1) after them", x.setRow(0, 1));
    }

    private static void isRefusedForeverAfterABegin() {
        WoundWaitLocks x = new WoundWaitLocks(1, 2, 3);
        x.begin(3);
        x.begin(-1);
        due.yes("setRow after refused begins", x.setRow(0, 5));
        x.step();
        x.run(4);
        Table.script(x, 0, "r0");
        due.yes("setRow after steps and an addOp", x.setRow(1, 6));
        x.begin(0);
        String before = Table.shown(x);
        due.no("setRow right after a begin", x.setRow(0, 1));
        due.no("setRow of a row outside after a begin", x.setRow(2, 1));
        due.same("the state after refused calls", Table.shown(x), before);
        x.run(10);
        due.is("commits()", x.commits(), 1);
        due.no("setRow after the commit", x.setRow(1, 1));
        due.is("rowValue(0)", x.rowValue(0), 5);
        due.is("rowValue(1)", x.rowValue(1), 6);
    }
}
