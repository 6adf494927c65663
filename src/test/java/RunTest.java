/** Promise 6: run. */
public final class RunTest {
    private static final Due due = new Due();

    public static void main(String[] args) {
        clampsItsArgument();
        stopsAfterNone();
        doesWhatTheStepsDo();
        due.end();
    }

    /** Eight transactions of eight reads each: 72 steps, and no contention. */
    private static WoundWaitLocks longWork() {
        WoundWaitLocks x = new WoundWaitLocks(0, 1, 8);
        for (int tx = 0; tx < 8; tx++) {
            Table.script(x, tx, "r0 r0 r0 r0 r0 r0 r0 r0");
            x.begin(tx);
        }
        return x;
    }

    private static void clampsItsArgument() {
        int[] counts = {
            Integer.MIN_VALUE, -64, -1, 0, 1, 2, 63, 64, 65, 72, 73, 1000, Integer.MAX_VALUE
        };
        for (int n : counts) {
            WoundWaitLocks x = longWork();
            int want = n < 1 ? 1 : Math.min(n, 64);
            due.is("run(" + n + ")", x.run(n), want);
            due.is("lastTx() after run(" + n + ")", x.lastTx(), (want - 1) % 8);
            due.is("run(64) of the rest", x.run(64), Math.min(64, 72 - want));
        }
    }

    private static void stopsAfterNone() {
        WoundWaitLocks x = longWork();
        x.run(64);
        due.is("run(8) of the last 8 steps", x.run(8), 8);
        due.is("lastTx() with no step after the last one", x.lastTx(), 7);
        due.is("run(8) of nothing", x.run(8), 0);
        due.is("lastTx()", x.lastTx(), -1);
        due.is("run(0) of nothing", x.run(0), 0);

        WoundWaitLocks y = longWork();
        y.run(64);
        due.is("run(9) of the last 8 steps", y.run(9), 8);
        due.is("lastTx() after the step that found none", y.lastTx(), -1);

        WoundWaitLocks fresh = new WoundWaitLocks(1, 4, 4);
        due.is("run(64) of a fresh object", fresh.run(64), 0);
        due.is("lastTx() of it", fresh.lastTx(), -1);
    }

    private static WoundWaitLocks contendedWork(int policy) {
        WoundWaitLocks x = new WoundWaitLocks(policy, 3, 5);
        Table.script(x, 0, "r0 w1+1 r2 w0+2");
        Table.script(x, 1, "w1+3 r0 w2+4");
        Table.script(x, 2, "r2 w0+5 r1");
        Table.script(x, 3, "w0+6 w2+7 w1+8");
        Table.script(x, 4, "r1 r2 w2+9");
        Table.beginAll(x, 4, 2, 0, 3, 1);
        return x;
    }

    private static void doesWhatTheStepsDo() {
        for (int policy = 0; policy <= 1; policy++) {
            for (int n = 1; n <= 64; n++) {
                WoundWaitLocks ran = contendedWork(policy);
                WoundWaitLocks stepped = contendedWork(policy);
                int taken = 0;
                boolean more = true;
                for (int i = 0; i < n && more; i++) {
                    more = stepped.step() != WoundWaitLocks.EV_NONE;
                    taken += more ? 1 : 0;
                }
                due.is("run(" + n + ")", ran.run(n), taken);
                due.same("the state after run(" + n + ")", Table.shown(ran), Table.shown(stepped));
            }
        }
    }
}
