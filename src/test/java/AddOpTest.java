/** Promise 3: addOp. */
public final class AddOpTest {
    private static final Due due = new Due();

    public static void main(String[] args) {
        appendsUpToEight();
        refusesWrongArguments();
        refusesABegunTransaction();
        keepsTheOrderAndTheArguments();
        readIgnoresItsArgument();
        due.end();
    }

    private static void appendsUpToEight() {
        WoundWaitLocks x = new WoundWaitLocks(0, 2, 8);
        for (int tx = 0; tx < 8; tx++) {
            for (int i = 0; i < 8; i++) {
                due.is("F_LENGTH of " + tx, x.txInfo(tx, WoundWaitLocks.F_LENGTH), i);
                due.yes("addOp " + i + " of " + tx, x.addOp(tx, 1 + i % 2, i / 4, i));
            }
            String before = Table.shown(x);
            due.no("a ninth addOp of " + tx, x.addOp(tx, 1, 0, 0));
            due.same("the state after it", Table.shown(x), before);
        }
        for (int tx = 0; tx < 8; tx++) {
            due.is("F_STATE of " + tx, x.txInfo(tx, WoundWaitLocks.F_STATE), 0);
            due.is("F_LENGTH of " + tx, x.txInfo(tx, WoundWaitLocks.F_LENGTH), 8);
        }
    }

    private static void refusesWrongArguments() {
        WoundWaitLocks x = new WoundWaitLocks(0, 3, 4);
        Table.script(x, 1, "r0 w1+4");
        String before = Table.shown(x);
        for (int far : Table.FAR) {
            due.no("addOp of tx " + far, x.addOp(far, 1, 0, 0));
            due.no("addOp of kind " + far, x.addOp(1, far, 0, 0));
            due.no("addOp of row " + far, x.addOp(1, 1, far, 0));
        }
        due.no("addOp of tx 4", x.addOp(4, 1, 0, 0));
        due.no("addOp of kind 0", x.addOp(1, 0, 0, 0));
        due.no("addOp of kind 3", x.addOp(1, 3, 0, 0));
        due.no("addOp of row 3", x.addOp(1, 2, 3, 0));
        due.no("addOp of nothing right", x.addOp(-1, 0, -1, 0));
        due.same("the state after refused calls", Table.shown(x), before);
        Table.script(x, 1, "w2+1");
        x.begin(1);
        due.is("run of what was added", x.run(64), 4);
        due.is("rowValue(1)", x.rowValue(1), 4);
        due.is("rowValue(2)", x.rowValue(2), 1);
    }

    private static void refusesABegunTransaction() {
        WoundWaitLocks x = new WoundWaitLocks(0, 2, 3);
        Table.script(x, 0, "w0+1");
        Table.script(x, 1, "w0+2");
        Table.beginAll(x, 1, 0);
        due.no("addOp when active", x.addOp(0, 1, 0, 0));
        due.same("events", Table.events(x, 2), "2 2");
        due.is("F_STATE of 0", x.txInfo(0, 0), WoundWaitLocks.ST_ABORTED);
        due.no("addOp when aborted", x.addOp(0, 1, 0, 0));
        due.same("events", Table.events(x, 2), "1 5");
        due.no("addOp when committed", x.addOp(1, 1, 0, 0));
        due.is("F_LENGTH of 0", x.txInfo(0, 8), 1);
        due.is("F_LENGTH of 1", x.txInfo(1, 8), 1);
        due.yes("addOp of one that is still idle", x.addOp(2, 1, 0, 0));

        WoundWaitLocks y = new WoundWaitLocks(0, 1, 2);
        Table.script(y, 0, "w0+1");
        Table.script(y, 1, "w0+2");
        Table.beginAll(y, 0, 1);
        y.run(2);
        due.is("F_STATE of 1", y.txInfo(1, 0), WoundWaitLocks.ST_WAITING);
        due.no("addOp when waiting", y.addOp(1, 1, 0, 0));
    }

    private static void keepsTheOrderAndTheArguments() {
        WoundWaitLocks x = new WoundWaitLocks(0, 4, 2);
        x.addOp(0, 2, 0, Integer.MAX_VALUE);
        x.addOp(0, 2, 1, Integer.MIN_VALUE);
        x.addOp(0, 1, 0, 0);
        x.addOp(0, 2, 2, -3);
        x.addOp(0, 2, 3, 0);
        x.begin(0);
        x.run(64);
        due.is("rowValue(0)", x.rowValue(0), Integer.MAX_VALUE);
        due.is("rowValue(1)", x.rowValue(1), Integer.MIN_VALUE);
        due.is("rowValue(2)", x.rowValue(2), Integer.MAX_VALUE - 3);
        due.is("rowValue(3)", x.rowValue(3), Integer.MAX_VALUE);
    }

    private static void readIgnoresItsArgument() {
        WoundWaitLocks x = new WoundWaitLocks(0, 1, 2);
        x.setRow(0, 6);
        due.yes("a read with an argument", x.addOp(0, 1, 0, 1000));
        due.yes("a read with another", x.addOp(0, 1, 0, Integer.MIN_VALUE));
        x.begin(0);
        x.run(64);
        due.is("F_ACC", x.txInfo(0, WoundWaitLocks.F_ACC), 12);
        due.is("rowValue(0)", x.rowValue(0), 6);
    }
}
