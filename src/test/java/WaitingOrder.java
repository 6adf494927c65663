/** The waiting order of promise 5, asked of an object as it stands. */
final class WaitingOrder {
    private WaitingOrder() {
    }

    /** Asks every waiting transaction; answers how many of the pairs that must be in order there were. */
    static int ask(Due due, String name, WoundWaitLocks x, int policy, int txs) {
        int pairs = 0;
        for (int w = 0; w < txs; w++) {
            if (Table.state(x, w) == WoundWaitLocks.ST_WAITING) {
                for (int u = 0; u < txs; u++) {
                    if (u != w && (holdsAgainst(x, u, w) || standsAhead(x, u, w))) {
                        pairs++;
                        due.yes(name + w + " may wait for " + u, inOrder(x, policy, u, w));
                    }
                }
            }
        }
        return pairs;
    }

    private static boolean holdsAgainst(WoundWaitLocks x, int u, int w) {
        int held = x.holdMode(u, x.txInfo(w, WoundWaitLocks.F_WAIT_ROW));
        boolean reads = x.txInfo(w, WoundWaitLocks.F_WAIT_MODE) == WoundWaitLocks.MODE_S;
        return reads ? held == WoundWaitLocks.MODE_X : held != WoundWaitLocks.MODE_NONE;
    }

    private static boolean standsAhead(WoundWaitLocks x, int u, int w) {
        int row = x.txInfo(w, WoundWaitLocks.F_WAIT_ROW);
        for (int pos = 0; pos < x.queueLength(row); pos++) {
            int at = x.queueAt(row, pos);
            if (at == u || at == w) {
                return at == u;
            }
        }
        return false;
    }

    private static boolean inOrder(WoundWaitLocks x, int policy, int u, int w) {
        boolean older = Table.timestamp(x, u) < Table.timestamp(x, w);
        return older == (policy == WoundWaitLocks.WOUND_WAIT);
    }
}
