/** Promise 2: setRow. */
public final class SetRowTest {
    private static final Due due = new Due("Promise 2");

    public static void main(String[] args) {
        due.holds("row is in 0..R-1", SetRowTest::takesTheRowsAlone);
        due.holds("no begin has yet succeeded on this object", SetRowTest::aRefusedBeginDoesNotCount);
        due.holds("If either fails, the call is refused: it answers false and changes nothing.",
            SetRowTest::refusalChangesNothing);
        due.holds("Otherwise it answers true, and value[row] becomes value.", SetRowTest::setsTheValue);
        due.holds("Any int value is accepted, and nothing else changes.", SetRowTest::takesAnyValueAndNothingElse);
        due.holds("Once any begin has succeeded, every later setRow is refused.",
            SetRowTest::isRefusedAfterAnyBegin);
        due.end();
    }

    private static void takesTheRowsAlone() {
        for (int rows = 1; rows <= 16; rows++) {
            WoundWaitLocks x = new WoundWaitLocks(0, rows, 2);
            for (int row : Table.outside(rows)) {
                due.no("setRow(" + row + ", 1) of " + rows, x.setRow(row, 1));
            }
            for (int row = 0; row < rows; row++) {
                due.is("rowValue(" + row + ") after refused calls", x.rowValue(row), 0);
                due.yes("setRow(" + row + ", 1) of " + rows, x.setRow(row, 1));
            }
        }
    }

    private static void aRefusedBeginDoesNotCount() {
        for (int tx : Table.outside(3)) {
            WoundWaitLocks x = new WoundWaitLocks(1, 2, 3);
            due.is("begin(" + tx + ")", x.begin(tx), 0);
            due.yes("setRow after begin(" + tx + ")", x.setRow(0, 5));
        }
        WoundWaitLocks y = new WoundWaitLocks(1, 2, 3);
        Table.script(y, 0, "r0");
        y.step();
        y.run(4);
        due.yes("setRow after an addOp and steps", y.setRow(1, 6));
        due.yes("setRow once more", y.setRow(1, 7));
        due.is("begin(2)", y.begin(2), 1);
        due.no("setRow after a begin", y.setRow(1, 8));
        due.is("rowValue(1)", y.rowValue(1), 7);
    }

    private static void refusalChangesNothing() {
        Situations.unchangedBy(due, "setRow of a row outside", x -> {
            for (int row : Table.outside(Situations.ROWS)) {
                due.no("setRow(" + row + ", 9)", x.setRow(row, 9));
            }
        });
        Situations.unchangedBy(due, "setRow after a begin", x -> {
            if (Table.timestamp(x, 0) != 0) {
                for (int row = 0; row < Situations.ROWS; row++) {
                    due.no("setRow(" + row + ", 9)", x.setRow(row, 9));
                }
            }
        });
    }

    private static void setsTheValue() {
        WoundWaitLocks x = new WoundWaitLocks(0, 16, 2);
        for (int row = 0; row < 16; row++) {
            due.yes("setRow of " + row, x.setRow(row, 3 * row - 20));
        }
        for (int row = 0; row < 16; row++) {
            due.is("rowValue(" + row + ")", x.rowValue(row), 3 * row - 20);
        }
        due.yes("setRow(4, 1)", x.setRow(4, 1));
        due.is("rowValue(4) when set again", x.rowValue(4), 1);
    }

    private static void takesAnyValueAndNothingElse() {
        WoundWaitLocks x = new WoundWaitLocks(0, 16, 8);
        String fresh = Table.shown(x);
        for (int row = 0; row < 16; row++) {
            for (int value : Table.ANY) {
                due.yes("setRow(" + row + ", " + value + ")", x.setRow(row, value));
                due.is("rowValue(" + row + ")", x.rowValue(row), value);
            }
            due.yes("setRow(" + row + ", 0)", x.setRow(row, 0));
            due.same("the state with the value back at 0", Table.shown(x), fresh);
        }
        String future = Table.future(new WoundWaitLocks(0, 16, 8));
        due.yes("all that follows is as without the calls", Table.future(x).equals(future));
    }

    private static void isRefusedAfterAnyBegin() {
        for (int tx = 0; tx < 8; tx++) {
            WoundWaitLocks x = new WoundWaitLocks(0, 2, 8);
            x.setRow(1, 5);
            x.begin(tx);
            due.no("setRow(1, 6) after begin(" + tx + ")", x.setRow(1, 6));
            due.no("setRow(2, 6) after begin(" + tx + ")", x.setRow(2, 6));
            x.run(64);
            due.is("commits()", x.commits(), 1);
            due.no("setRow(1, 6) after the commit of " + tx, x.setRow(1, 6));
            due.is("rowValue(1)", x.rowValue(1), 5);
        }
        for (int number = 0; number < Situations.COUNT; number++) {
            boolean taken = Situations.make(number).setRow(0, 6);
            due.yes(Situations.name(number) + ": setRow(0, 6)", taken != Situations.hasBegun(number));
        }
    }
}
