/** Promise 12: commits, and the commit ranks beside it. */
public final class CommitsTest {
    private static final Due due = new Due();

    public static void main(String[] args) {
        growsByOneWithEachCommit();
        abortsDoNotCount();
        due.end();
    }

    private static void growsByOneWithEachCommit() {
        WoundWaitLocks x = new WoundWaitLocks(0, 1, 8);
        due.is("commits() of a fresh object", x.commits(), 0);
        for (int tx = 0; tx < 8; tx++) {
            for (int i = 0; i < 8 - tx; i++) {
                x.addOp(tx, 1, 0, 0);
            }
            x.begin(tx);
        }
        due.is("commits() after begins", x.commits(), 0);
        int commits = 0;
        for (int i = 0; i < 60; i++) {
            int event = x.step();
            if (event == WoundWaitLocks.EV_COMMIT) {
                commits++;
                int rank = x.txInfo(x.lastTx(), WoundWaitLocks.F_COMMIT_RANK);
                due.is("F_COMMIT_RANK of " + x.lastTx(), rank, commits);
                due.is("the one that commits", x.lastTx(), 8 - commits);
            }
            due.is("commits() after step " + i, x.commits(), commits);
        }
        due.is("commits() at the end", x.commits(), 8);
        for (int tx = 0; tx < 8; tx++) {
            due.is("F_COMMIT_RANK of " + tx, x.txInfo(tx, WoundWaitLocks.F_COMMIT_RANK), 8 - tx);
        }
        String before = Table.shown(x);
        x.commits();
        due.same("the state", Table.shown(x), before);
    }

    private static void abortsDoNotCount() {
        for (int policy = 0; policy <= 1; policy++) {
            WoundWaitLocks x = new WoundWaitLocks(policy, 1, 2);
            Table.script(x, 0, "w0+1");
            Table.script(x, 1, "w0+2");
            int older = policy == WoundWaitLocks.WOUND_WAIT ? 1 : 0;
            Table.beginAll(x, older, 1 - older);
            x.run(2);
            int aborts = x.txInfo(0, WoundWaitLocks.F_ABORTS) + x.txInfo(1, WoundWaitLocks.F_ABORTS);
            due.is("F_ABORTS of both", aborts, 1);
            due.is("commits()", x.commits(), 0);
            x.run(64);
            due.is("commits()", x.commits(), 2);
        }
    }
}
