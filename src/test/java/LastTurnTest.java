/** Promise 11: lastTx and lastWounds. */
public final class LastTurnTest {
    private static final Due due = new Due();

    public static void main(String[] args) {
        followEachStep();
        onlyStepsChangeThem();
        deathIsNoWound();
        countsEveryWound();
        due.end();
    }

    private static void last(String when, WoundWaitLocks x, int tx, int wounds) {
        due.is(when + ": lastTx()", x.lastTx(), tx);
        due.is(when + ": lastWounds()", x.lastWounds(), wounds);
    }

    private static WoundWaitLocks wounding() {
        WoundWaitLocks x = new WoundWaitLocks(WoundWaitLocks.WOUND_WAIT, 1, 4);
        Table.script(x, 0, "w0+1");
        Table.script(x, 2, "w0+2");
        Table.beginAll(x, 2, 0);
        return x;
    }

    private static void followEachStep() {
        WoundWaitLocks x = wounding();
        last("fresh", x, -1, 0);
        x.step();
        last("after an operation", x, 0, 0);
        x.step();
        last("after a wound", x, 2, 1);
        x.step();
        last("after a restart", x, 0, 0);
        x.step();
        last("after a commit", x, 2, 0);
        x.run(2);
        last("after a run", x, 0, 0);
        x.step();
        last("after EV_NONE", x, -1, 0);

        WoundWaitLocks y = wounding();
        due.is("run(2)", y.run(2), 2);
        last("after a run that ends with a wound", y, 2, 1);
        y.run(64);
        last("after a run that ends with EV_NONE", y, -1, 0);
    }

    private static void onlyStepsChangeThem() {
        WoundWaitLocks x = wounding();
        x.run(2);
        x.begin(3);
        x.begin(0);
        x.begin(9);
        x.addOp(1, 1, 0, 0);
        x.addOp(1, 7, 0, 0);
        x.setRow(0, 3);
        Table.shown(x);
        last("after other calls", x, 2, 1);
    }

    private static void deathIsNoWound() {
        WoundWaitLocks x = new WoundWaitLocks(WoundWaitLocks.WAIT_DIE, 1, 2);
        Table.script(x, 0, "w0+1");
        Table.script(x, 1, "w0+2");
        Table.beginAll(x, 0, 1);
        x.run(2);
        due.is("F_ABORTS of 1", x.txInfo(1, WoundWaitLocks.F_ABORTS), 1);
        last("after a death", x, 1, 0);
    }

    private static void countsEveryWound() {
        for (int readers = 1; readers <= 7; readers++) {
            WoundWaitLocks x = new WoundWaitLocks(WoundWaitLocks.WOUND_WAIT, 1, 8);
            Table.script(x, 7, "w0+1");
            x.begin(7);
            for (int tx = 0; tx < readers; tx++) {
                Table.script(x, tx, "r0");
                x.begin(tx);
            }
            x.run(readers + 1);
            last("after wounding " + readers, x, 7, readers);
        }
    }
}
