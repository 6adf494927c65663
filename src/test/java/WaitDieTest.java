/** Promise 5, case (e): an older transaction waits, a younger one dies. */
public final class WaitDieTest {
    private static final Due due = new Due("Promise 5, case (e)");

    public static void main(String[] args) {
        due.holds("If t's timestamp is less than that of every u in B", WaitDieTest::waitsIfOlderThanAll);
        due.holds("(every u in B: one that waits in the queue also)", WaitDieTest::waitersBlockAlso);
        due.holds("t joins the tail of r's queue and becomes ST_WAITING, with wait row r and wait mode m;"
            + " the event is EV_WAIT.", WaitDieTest::olderWaits);
        due.holds("the tail of r's queue", WaitDieTest::joinsTheTail);
        due.holds("Otherwise ABORT(t) is applied; the event is EV_DIE.", WaitDieTest::youngerDies);
        due.holds("(ABORT(t) undoes t's writes and hands its rows over)", WaitDieTest::dyingUndoesAndHandsOver);
        due.holds("(an upgrade waits or dies)", WaitDieTest::upgradeWaitsOrDies);
        due.end();
    }

    private static WoundWaitLocks table(int rows, int txs) {
        return new WoundWaitLocks(WoundWaitLocks.WAIT_DIE, rows, txs);
    }

    /** 0 to 6 read; of these the last ones, from none to all, are younger than the writer 7. */
    private static void waitsIfOlderThanAll() {
        for (int younger = 0; younger <= 7; younger++) {
            WoundWaitLocks x = table(1, 8);
            for (int tx = 0; tx < 7; tx++) {
                Table.script(x, tx, "r0");
            }
            Table.script(x, 7, "w0+9");
            for (int tx = 0; tx < 7; tx++) {
                if (tx == 7 - younger) {
                    x.begin(7);
                }
                x.begin(tx);
            }
            x.begin(7);
            due.is("run(7)", x.run(7), 7);
            int want = younger == 7 ? WoundWaitLocks.EV_WAIT : WoundWaitLocks.EV_DIE;
            due.is("step() of the writer with " + younger + " younger", x.step(), want);
            due.same("holders", Table.holders(x, 8, 0), "1 1 1 1 1 1 1 0");
            due.is("lastWounds()", x.lastWounds(), 0);
        }
    }

    /** 3 could share with the reader 0, but is younger than one of those that wait, or older than all. */
    private static void waitersBlockAlso() {
        int[][] orders = {{2, 1, 0, 3}, {2, 1, 3, 0}, {2, 3, 1, 0}, {3, 2, 1, 0}};
        for (int[] order : orders) {
            WoundWaitLocks x = table(1, 4);
            Table.script(x, 0, "r0 r0");
            Table.script(x, 1, "w0+1");
            Table.script(x, 2, "r0");
            Table.script(x, 3, "r0");
            Table.beginAll(x, order);
            due.same("events", Table.events(x, 3), "2 3 3");
            due.same("queue", Table.queue(x, 0), "1 2");
            boolean oldest = order[0] == 3;
            due.is("step() of 3", x.step(), oldest ? WoundWaitLocks.EV_WAIT : WoundWaitLocks.EV_DIE);
            due.same("queue", Table.queue(x, 0), oldest ? "1 2 3" : "1 2");
        }
    }

    private static void olderWaits() {
        String[] first = {"w0+1", "w0+1", "r0"};
        String[] second = {"w0+2", "r0", "w0+2"};
        int[] mode = {WoundWaitLocks.MODE_X, WoundWaitLocks.MODE_S, WoundWaitLocks.MODE_X};
        for (int i = 0; i < 3; i++) {
            WoundWaitLocks x = table(1, 2);
            Table.script(x, 0, first[i]);
            Table.script(x, 1, second[i]);
            Table.beginAll(x, 1, 0);
            due.same("events " + i, Table.events(x, 2), "2 3");
            due.is("F_STATE", Table.state(x, 1), WoundWaitLocks.ST_WAITING);
            due.is("F_WAIT_ROW", x.txInfo(1, WoundWaitLocks.F_WAIT_ROW), 0);
            due.is("F_WAIT_MODE", x.txInfo(1, WoundWaitLocks.F_WAIT_MODE), mode[i]);
            due.is("F_PC", x.txInfo(1, WoundWaitLocks.F_PC), 0);
            due.is("lastWounds()", x.lastWounds(), 0);
            due.is("F_ABORTS of the younger", x.txInfo(0, WoundWaitLocks.F_ABORTS), 0);
            due.same("queue", Table.queue(x, 0), "1");
        }
    }

    private static void joinsTheTail() {
        WoundWaitLocks x = table(1, 8);
        for (int tx = 0; tx < 8; tx++) {
            Table.script(x, tx, tx % 3 == 0 ? "w0+1" : "r0");
        }
        Table.beginAll(x, 7, 6, 5, 4, 3, 2, 1, 0);
        String[] queues = {"", "1", "1 2", "1 2 3", "1 2 3 4", "1 2 3 4 5", "1 2 3 4 5 6", "1 2 3 4 5 6 7"};
        for (String queue : queues) {
            x.step();
            due.same("queue", Table.queue(x, 0), queue);
        }
    }

    private static void youngerDies() {
        String[] first = {"w0+1", "w0+1", "r0"};
        String[] second = {"w0+2", "r0", "w0+2"};
        for (int i = 0; i < 3; i++) {
            WoundWaitLocks x = table(1, 2);
            Table.script(x, 0, first[i]);
            Table.script(x, 1, second[i]);
            Table.beginAll(x, 0, 1);
            due.same("events " + i, Table.events(x, 2), "2 4");
            due.is("lastTx()", x.lastTx(), 1);
            due.is("lastWounds()", x.lastWounds(), 0);
            due.same("states", Table.states(x, 2), "1 3");
            due.is("F_ABORTS", x.txInfo(1, WoundWaitLocks.F_ABORTS), 1);
            due.is("F_WAIT_ROW", x.txInfo(1, WoundWaitLocks.F_WAIT_ROW), -1);
            due.is("queueLength(0)", x.queueLength(0), 0);
            due.same("events", Table.events(x, 4), "5 1 2 5");
        }
    }

    private static void dyingUndoesAndHandsOver() {
        WoundWaitLocks x = table(3, 3);
        x.setRow(0, 40);
        x.setRow(1, 50);
        Table.script(x, 0, "w0+1 w0+2 w1+3 r2");
        Table.script(x, 1, "w2+1 w2+2 w2+3 w2+4");
        Table.script(x, 2, "r0");
        Table.beginAll(x, 2, 1, 0);
        due.same("events", Table.events(x, 7), "2 2 3 2 2 2 2");
        due.same("values before", Table.values(x, 3), "2 3 3");
        due.same("queue", Table.queue(x, 0), "2");
        due.is("step() of 0", x.step(), WoundWaitLocks.EV_DIE);
        due.same("values after", Table.values(x, 3), "40 50 3");
        due.is("queueLength(0)", x.queueLength(0), 0);
        due.same("holders of row 0", Table.holders(x, 3, 0), "0 0 1");
        due.same("holders of row 1", Table.holders(x, 3, 1), "0 0 0");
        due.same("states", Table.states(x, 3), "3 1 1");
    }

    private static void upgradeWaitsOrDies() {
        WoundWaitLocks x = table(1, 2);
        Table.script(x, 0, "r0 w0+1");
        Table.script(x, 1, "r0 w0+2");
        Table.beginAll(x, 0, 1);
        due.same("events", Table.events(x, 3), "2 2 3");
        due.same("holders while 0 waits", Table.holders(x, 2, 0), "1 1");
        due.is("step() of the younger", x.step(), WoundWaitLocks.EV_DIE);
        due.same("states", Table.states(x, 2), "1 3");
        due.same("holders after the handoff", Table.holders(x, 2, 0), "2 0");
        due.is("rowValue(0) before the next turn", x.rowValue(0), 0);
        due.same("events", Table.events(x, 3), "2 1 5");
        x.run(64);
        due.is("rowValue(0)", x.rowValue(0), 3);
        due.is("F_ABORTS of the younger", x.txInfo(1, WoundWaitLocks.F_ABORTS), 1);
    }
}
