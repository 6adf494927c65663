/** Promise 12: commits. */
public final class CommitsTest {
    private static final Due due = new Due("Promise 12");

    public static void main(String[] args) {
        due.holds("answers the total number of commits so far", CommitsTest::countsTheCommittedOnes);
        due.holds("It is 0 on a fresh object", CommitsTest::isZeroAtFirst);
        due.holds("and grows by 1 with each COMMIT.", CommitsTest::growsByOneWithEachCommit);
        due.holds("Right after a commit, it equals the new commit rank.", CommitsTest::equalsTheNewRank);
        due.holds("It changes nothing.", CommitsTest::changesNothing);
        due.end();
    }

    private static void countsTheCommittedOnes() {
        for (int number = 0; number < Situations.COUNT; number++) {
            WoundWaitLocks x = Situations.make(number);
            int committed = 0;
            for (int tx = 0; tx < Situations.TXS; tx++) {
                committed += Table.state(x, tx) == WoundWaitLocks.ST_COMMITTED ? 1 : 0;
            }
            due.is(Situations.name(number) + ": commits()", x.commits(), committed);
        }
    }

    private static void isZeroAtFirst() {
        for (int txs = 2; txs <= 8; txs++) {
            WoundWaitLocks x = new WoundWaitLocks(0, 1, txs);
            due.is("commits() of a fresh object", x.commits(), 0);
            x.step();
            due.is("commits() after EV_NONE", x.commits(), 0);
            x.begin(0);
            due.is("commits() after a begin", x.commits(), 0);
        }
    }

    /** Operations, waits, restarts and aborts leave it alone. */
    private static void growsByOneWithEachCommit() {
        for (int policy = 0; policy <= 1; policy++) {
            WoundWaitLocks x = Situations.make(4 + policy);
            x.begin(Situations.IDLE_TX);
            int commits = 0;
            boolean[] met = new boolean[6];
            for (int i = 0; i < 200; i++) {
                int event = x.step();
                met[event] = true;
                commits += event == WoundWaitLocks.EV_COMMIT ? 1 : 0;
                due.is("commits() after step " + i, x.commits(), commits);
            }
            due.is("commits() in the end", x.commits(), Situations.TXS);
            due.yes("a wait is met", met[WoundWaitLocks.EV_WAIT]);
            due.yes("a restart is met", met[WoundWaitLocks.EV_RESTART]);
        }
    }

    private static void equalsTheNewRank() {
        WoundWaitLocks x = new WoundWaitLocks(0, 1, 8);
        for (int tx = 0; tx < 8; tx++) {
            for (int i = 0; i < 8 - tx; i++) {
                x.addOp(tx, WoundWaitLocks.OP_READ, 0, 0);
            }
            x.begin(tx);
        }
        int commits = 0;
        for (int i = 0; i < 60; i++) {
            if (x.step() == WoundWaitLocks.EV_COMMIT) {
                commits++;
                due.is("the one that commits", x.lastTx(), 8 - commits);
                due.is("commits()", x.commits(), x.txInfo(x.lastTx(), WoundWaitLocks.F_COMMIT_RANK));
                due.is("commits()", x.commits(), commits);
            }
        }
        due.is("commits() in the end", x.commits(), 8);
    }

    private static void changesNothing() {
        Situations.unchangedBy(due, "commits", WoundWaitLocks::commits);
    }
}
