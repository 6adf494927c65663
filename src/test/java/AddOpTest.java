/** Promise 3: addOp. */
public final class AddOpTest {
    private static final int READ = WoundWaitLocks.OP_READ;
    private static final int WRITE = WoundWaitLocks.OP_WRITE;
    private static final Due due = new Due("Promise 3");

    public static void main(String[] args) {
        due.holds("tx is in 0..T-1", AddOpTest::takesTheTransactionsAlone);
        due.holds("tx is ST_IDLE", AddOpTest::takesTheIdleAlone);
        due.holds("the script length is less than 8", AddOpTest::takesEight);
        due.holds("kind is OP_READ or OP_WRITE", AddOpTest::takesTheKindsAlone);
        due.holds("row is in 0..R-1", AddOpTest::takesTheRowsAlone);
        due.holds("If any fails, the call is refused: it answers false and changes nothing.",
            AddOpTest::refusalChangesNothing);
        due.holds("the operation (kind, row, arg) is appended at the end of tx's script, so tx's F_LENGTH grows by"
            + " 1", AddOpTest::appendsAtTheEnd);
        due.holds("arg is k for OP_WRITE and is ignored for OP_READ.", AddOpTest::argIsForWrites);
        due.holds("Any int arg is accepted.", AddOpTest::takesAnyArg);
        due.holds("Nothing else changes: no state, value, lock or queue.", AddOpTest::changesTheScriptAlone);
        due.holds("Once tx has begun, its script can no longer grow.", AddOpTest::aBegunScriptDoesNotGrow);
        due.end();
    }

    private static int length(WoundWaitLocks x, int tx) {
        return x.txInfo(tx, WoundWaitLocks.F_LENGTH);
    }

    private static void takesTheTransactionsAlone() {
        for (int txs = 2; txs <= 8; txs++) {
            WoundWaitLocks x = new WoundWaitLocks(0, 1, txs);
            for (int tx : Table.outside(txs)) {
                due.no("addOp(" + tx + ", 1, 0, 0) of " + txs, x.addOp(tx, READ, 0, 0));
            }
            for (int tx = 0; tx < txs; tx++) {
                due.is("F_LENGTH of " + tx, length(x, tx), 0);
                due.yes("addOp(" + tx + ", 1, 0, 0) of " + txs, x.addOp(tx, READ, 0, 0));
            }
        }
    }

    /** In every situation the idle ones are taken and the others are not, and each other state is met. */
    private static void takesTheIdleAlone() {
        boolean[] met = new boolean[5];
        for (int number = 0; number < Situations.COUNT; number++) {
            for (int tx = 0; tx < Situations.TXS; tx++) {
                WoundWaitLocks x = Situations.make(number);
                int state = Table.state(x, tx);
                boolean full = length(x, tx) == 8;
                met[state] = true;
                boolean idle = state == WoundWaitLocks.ST_IDLE;
                boolean taken = x.addOp(tx, READ, 0, 0);
                due.yes(Situations.name(number) + ": addOp of " + tx, taken == (idle && !full));
            }
        }
        for (int state = 0; state < 5; state++) {
            due.yes("state " + state + " is met", met[state]);
        }
    }

    private static void takesEight() {
        WoundWaitLocks x = new WoundWaitLocks(0, 2, 8);
        for (int tx = 0; tx < 8; tx++) {
            for (int i = 0; i < 8; i++) {
                due.yes("addOp " + i + " of " + tx, x.addOp(tx, 1 + i % 2, i / 4, i));
            }
            String before = Table.shown(x);
            for (int i = 8; i < 20; i++) {
                due.no("addOp " + i + " of " + tx, x.addOp(tx, 1 + i % 2, 0, i));
            }
            due.same("the state after refused calls", Table.shown(x), before);
            due.is("F_LENGTH of " + tx, length(x, tx), 8);
        }
    }

    private static void takesTheKindsAlone() {
        WoundWaitLocks x = new WoundWaitLocks(0, 1, 2);
        for (int kind : Table.ANY) {
            if (kind != READ && kind != WRITE) {
                due.no("addOp(0, " + kind + ", 0, 0)", x.addOp(0, kind, 0, 0));
            }
        }
        due.is("F_LENGTH", length(x, 0), 0);
        due.yes("addOp(0, 1, 0, 0)", x.addOp(0, 1, 0, 0));
        due.yes("addOp(0, 2, 0, 0)", x.addOp(0, 2, 0, 0));
    }

    private static void takesTheRowsAlone() {
        for (int rows = 1; rows <= 16; rows++) {
            WoundWaitLocks x = new WoundWaitLocks(0, rows, 8);
            for (int row : Table.outside(rows)) {
                due.no("addOp(0, 1, " + row + ", 0) of " + rows, x.addOp(0, READ, row, 0));
                due.no("addOp(0, 2, " + row + ", 0) of " + rows, x.addOp(0, WRITE, row, 0));
            }
            due.is("F_LENGTH", length(x, 0), 0);
            for (int row = 0; row < rows; row++) {
                due.yes("addOp on " + row + " of " + rows, x.addOp(row / 8, 1 + row % 2, row, 0));
            }
        }
    }

    /** One condition fails, the others hold; then all fail. */
    private static void refusalChangesNothing() {
        int idle = Situations.IDLE_TX;
        Situations.unchangedBy(due, "a refused addOp", x -> {
            due.no("addOp of a tx below", x.addOp(-1, WRITE, 0, 9));
            due.no("addOp of a tx above", x.addOp(Situations.TXS, WRITE, 0, 9));
            due.no("addOp of a kind below", x.addOp(idle, 0, 0, 9));
            due.no("addOp of a kind above", x.addOp(idle, 3, 0, 9));
            due.no("addOp of a row below", x.addOp(idle, WRITE, -1, 9));
            due.no("addOp of a row above", x.addOp(idle, WRITE, Situations.ROWS, 9));
            due.no("addOp of nothing right", x.addOp(Situations.TXS, 0, Situations.ROWS, 9));
            for (int tx = 0; tx < Situations.TXS; tx++) {
                if (Table.state(x, tx) != WoundWaitLocks.ST_IDLE || length(x, tx) == 8) {
                    due.no("addOp of one begun or full", x.addOp(tx, WRITE, 0, 9));
                    due.no("addOp of one begun or full, of nothing right", x.addOp(tx, 3, -1, 9));
                }
            }
        });
    }

    private static void appendsAtTheEnd() {
        WoundWaitLocks x = new WoundWaitLocks(0, 9, 2);
        for (int i = 0; i < 8; i++) {
            due.is("F_LENGTH", length(x, 0), i);
            due.yes("addOp " + i, x.addOp(0, WRITE, i + 1, 50 + i));
            due.is("F_LENGTH", length(x, 0), i + 1);
            due.is("F_LENGTH of the other", length(x, 1), 0);
        }
        x.begin(0);
        for (int i = 0; i < 8; i++) {
            due.is("rowValue(" + (i + 1) + ") before operation " + i, x.rowValue(i + 1), 0);
            due.is("step() " + i, x.step(), WoundWaitLocks.EV_OP);
            due.is("rowValue(" + (i + 1) + ") after operation " + i, x.rowValue(i + 1), 50 + i);
        }
        due.is("step() 8", x.step(), WoundWaitLocks.EV_COMMIT);
    }

    private static void argIsForWrites() {
        for (int arg : Table.ANY) {
            WoundWaitLocks x = new WoundWaitLocks(0, 2, 2);
            x.setRow(0, 6);
            x.addOp(0, READ, 0, arg);
            x.addOp(0, WRITE, 1, arg);
            x.begin(0);
            x.run(2);
            due.is("F_ACC", x.txInfo(0, WoundWaitLocks.F_ACC), 6);
            due.is("rowValue(0)", x.rowValue(0), 6);
            due.is("rowValue(1) with arg " + arg, x.rowValue(1), 6 + arg);
        }
    }

    private static void takesAnyArg() {
        for (int arg : Table.ANY) {
            WoundWaitLocks x = new WoundWaitLocks(0, 1, 2);
            due.yes("addOp(0, 1, 0, " + arg + ")", x.addOp(0, READ, 0, arg));
            due.yes("addOp(1, 2, 0, " + arg + ")", x.addOp(1, WRITE, 0, arg));
            x.begin(1);
            x.step();
            due.is("rowValue(0)", x.rowValue(0), arg);
        }
    }

    /** The only thing shown that differs is the length of the script that has grown. */
    private static void changesTheScriptAlone() {
        for (int number = 0; number < Situations.COUNT; number++) {
            WoundWaitLocks x = Situations.make(number);
            String before = Table.shown(x);
            int was = length(x, Situations.IDLE_TX);
            due.yes("addOp", x.addOp(Situations.IDLE_TX, WRITE, 1, 8));
            String idle = "tx" + Situations.IDLE_TX + "[0 0 0 0 0 0 0 -1 0 ";
            String want = before.replace(idle + was, idle + (was + 1));
            due.no("the idle one is shown", want.equals(before));
            due.same("the state: " + Situations.name(number), Table.shown(x), want);
        }
    }

    private static void aBegunScriptDoesNotGrow() {
        for (int length = 0; length <= 8; length++) {
            WoundWaitLocks x = new WoundWaitLocks(0, 1, 2);
            for (int i = 0; i < length; i++) {
                x.addOp(0, READ, 0, 0);
            }
            x.begin(0);
            for (int i = 0; i <= length; i++) {
                due.no("addOp with pc " + i + " of " + length, x.addOp(0, READ, 0, 0));
                due.is("F_LENGTH", length(x, 0), length);
                due.is("step()", x.step(), i < length ? WoundWaitLocks.EV_OP : WoundWaitLocks.EV_COMMIT);
            }
            due.no("addOp after the commit", x.addOp(0, READ, 0, 0));
            due.is("F_LENGTH", length(x, 0), length);
            due.yes("addOp of one still idle", x.addOp(1, READ, 0, 0));
        }
    }
}
