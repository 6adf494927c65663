/** Promise 5, waiting order: who waits for whom, and that the waiting never comes to a standstill. */
public final class WaitingOrderTest {
    private static final Due due = new Due("Promise 5, waiting order");

    public static void main(String[] args) {
        due.holds("under WOUND_WAIT, u's timestamp is smaller than w's", WaitingOrderTest::theYoungerWait);
        due.holds("under WAIT_DIE, u's timestamp is greater than w's", WaitingOrderTest::theOlderWait);
        due.holds("Consequently, waiting never forms a cycle.", WaitingOrderTest::crossedWritersBothCommit);
        due.holds("step answers EV_NONE only when every transaction is ST_IDLE or ST_COMMITTED.",
            WaitingOrderTest::noneMeansAllDone);
        due.end();
    }

    private static void orderUnder(int policy) {
        int pairs = 0;
        for (int number = 0; number < Situations.COUNT; number++) {
            if (Situations.policy(number) == policy) {
                WoundWaitLocks x = Situations.make(number);
                pairs += WaitingOrder.ask(due, Situations.name(number) + ": ", x, policy, Situations.TXS);
            }
        }
        due.yes("some waited for others", pairs > 20);
    }

    private static void theYoungerWait() {
        orderUnder(WoundWaitLocks.WOUND_WAIT);
    }

    private static void theOlderWait() {
        orderUnder(WoundWaitLocks.WAIT_DIE);
    }

    /** Two to eight write all rows, each from another one on, so that locks without an order would deadlock. */
    private static void crossedWritersBothCommit() {
        for (int policy = 0; policy <= 1; policy++) {
            for (int txs = 2; txs <= 8; txs++) {
                WoundWaitLocks x = new WoundWaitLocks(policy, txs, txs);
                for (int tx = 0; tx < txs; tx++) {
                    for (int i = 0; i < txs; i++) {
                        x.addOp(tx, WoundWaitLocks.OP_WRITE, (tx + i) % txs, tx);
                    }
                }
                for (int i = txs - 1; i >= 0; i--) {
                    x.begin(i);
                }
                for (int i = 0; i < 40; i++) {
                    x.run(64);
                }
                due.is("commits() of " + txs + " under " + policy, x.commits(), txs);
            }
        }
    }

    private static void noneMeansAllDone() {
        int[] ends = new int[2];
        for (int number = 0; number < Situations.COUNT; number++) {
            WoundWaitLocks x = Situations.make(number);
            String states = Table.states(x, Situations.TXS);
            boolean allDone = states.matches("[04 ]*");
            boolean none = x.step() == WoundWaitLocks.EV_NONE;
            due.yes(Situations.name(number) + ": states " + states, none == allDone);
            ends[Situations.policy(number)] += states.equals("4 4 4 4 4 0") ? 1 : 0;
        }
        due.yes("wound-wait comes to its end", ends[WoundWaitLocks.WOUND_WAIT] > 0);
        due.yes("wait-die comes to its end", ends[WoundWaitLocks.WAIT_DIE] > 0);
    }
}
