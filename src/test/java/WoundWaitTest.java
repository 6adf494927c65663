/** Promise 5, case (d): an older transaction wounds, a younger one waits. */
public final class WoundWaitTest {
    private static final Due due = new Due("Promise 5, case (d)");

    public static void main(String[] args) {
        due.holds("B is fixed at this moment.", WoundWaitTest::woundsTheBlockersFoundAtFirst);
        due.holds("Every u in B whose timestamp is greater than t's is wounded.", WoundWaitTest::woundsTheYounger);
        due.holds("(Every u in B: one that waits in the queue also)", WoundWaitTest::woundsAWaiter);
        due.holds("ABORT(u) is applied to them one after another", WoundWaitTest::undoesWhatTheWoundedWrote);
        due.holds("The wound count of the turn is how many were wounded.", WoundWaitTest::countsTheWounds);
        due.holds("Then, if (t, m, r) is grantable: grant, perform op; the event is EV_OP.",
            WoundWaitTest::actsWhenAllBlockersAreGone);
        due.holds("Otherwise t joins the tail of r's queue and becomes ST_WAITING, with wait row r and wait mode m;"
            + " the event is EV_WAIT.", WoundWaitTest::waitsForTheOlder);
        due.holds("the tail of r's queue", WoundWaitTest::joinsTheTail);
        due.holds("(an upgrade wounds younger readers)", WoundWaitTest::upgradeWoundsYoungerReaders);
        due.holds("(an upgrade waits for older readers)", WoundWaitTest::upgradeWaitsForOlderReaders);
        due.end();
    }

    private static WoundWaitLocks table(int rows, int txs) {
        return new WoundWaitLocks(WoundWaitLocks.WOUND_WAIT, rows, txs);
    }

    /** Wounding 0 hands the row to the reader 1, which then would be no blocker; it is wounded all the same. */
    private static void woundsTheBlockersFoundAtFirst() {
        WoundWaitLocks x = table(1, 3);
        x.setRow(0, 6);
        Table.script(x, 0, "w0+1");
        Table.script(x, 1, "r0");
        Table.script(x, 2, "r0");
        Table.beginAll(x, 2, 0, 1);
        due.same("events", Table.events(x, 3), "2 3 2");
        due.is("lastWounds()", x.lastWounds(), 2);
        due.same("states", Table.states(x, 3), "3 3 1");
        due.is("F_ABORTS of 1", x.txInfo(1, WoundWaitLocks.F_ABORTS), 1);
        due.same("holders", Table.holders(x, 3, 0), "0 0 1");
        due.is("F_ACC of 2", x.txInfo(2, WoundWaitLocks.F_ACC), 6);
    }

    /** 0 to 6 read, 7 writes, and of the seven the last ones, from none to all, are younger than 7. */
    private static WoundWaitLocks sevenReaders(int younger) {
        WoundWaitLocks x = table(1, 8);
        for (int tx = 0; tx < 7; tx++) {
            Table.script(x, tx, "r0 r0");
        }
        Table.script(x, 7, "w0+9");
        for (int tx = 0; tx < 7; tx++) {
            if (tx == 7 - younger) {
                x.begin(7);
            }
            x.begin(tx);
        }
        x.begin(7);
        x.run(7);
        return x;
    }

    private static void woundsTheYounger() {
        for (int younger = 0; younger <= 7; younger++) {
            WoundWaitLocks x = sevenReaders(younger);
            x.step();
            for (int tx = 0; tx < 7; tx++) {
                boolean wounded = tx >= 7 - younger;
                int state = wounded ? WoundWaitLocks.ST_ABORTED : WoundWaitLocks.ST_ACTIVE;
                due.is("F_STATE of " + tx + " with " + younger + " younger", Table.state(x, tx), state);
                due.is("holdMode(" + tx + ", 0)", x.holdMode(tx, 0), wounded ? 0 : WoundWaitLocks.MODE_S);
                due.is("F_ABORTS of " + tx, x.txInfo(tx, WoundWaitLocks.F_ABORTS), wounded ? 1 : 0);
            }
            due.is("F_ABORTS of 7", x.txInfo(7, WoundWaitLocks.F_ABORTS), 0);
        }
    }

    /** The reader 2 could share with the reader 0, but the writer 1 waits before it, and is younger. */
    private static void woundsAWaiter() {
        WoundWaitLocks x = table(1, 3);
        Table.script(x, 0, "r0 r0");
        Table.script(x, 1, "w0+1");
        Table.script(x, 2, "r0");
        Table.beginAll(x, 0, 2, 1);
        due.same("events", Table.events(x, 2), "2 3");
        due.is("step() of the reader", x.step(), WoundWaitLocks.EV_OP);
        due.is("lastWounds()", x.lastWounds(), 1);
        due.same("states", Table.states(x, 3), "1 3 1");
        due.is("F_WAIT_ROW of the waiter", x.txInfo(1, WoundWaitLocks.F_WAIT_ROW), -1);
        due.is("F_WAIT_MODE of the waiter", x.txInfo(1, WoundWaitLocks.F_WAIT_MODE), 0);
        due.is("queueLength(0)", x.queueLength(0), 0);
        due.same("holders", Table.holders(x, 3, 0), "1 0 1");
    }

    /** Three readers of row 0, each of which has written a row of its own, are wounded in one turn. */
    private static void undoesWhatTheWoundedWrote() {
        WoundWaitLocks x = table(4, 4);
        for (int row = 0; row < 4; row++) {
            x.setRow(row, 10 + row);
        }
        for (int tx = 0; tx < 3; tx++) {
            Table.script(x, tx, "w" + (tx + 1) + "+7 r0");
        }
        Table.script(x, 3, "r0 w0+1");
        Table.beginAll(x, 3, 1, 0, 2);
        due.same("events", Table.events(x, 7), "2 2 2 2 2 2 2");
        due.same("values before", Table.values(x, 4), "10 7 7 7");
        due.is("step() of 3", x.step(), WoundWaitLocks.EV_OP);
        due.is("lastWounds()", x.lastWounds(), 3);
        due.same("values after", Table.values(x, 4), "11 11 12 13");
        due.same("states", Table.states(x, 4), "3 3 3 1");
        for (int row = 1; row < 4; row++) {
            due.same("holders of " + row, Table.holders(x, 4, row), "0 0 0 0");
        }
        due.same("events", Table.events(x, 4), "1 1 1 5");
    }

    private static void countsTheWounds() {
        for (int younger = 0; younger <= 7; younger++) {
            WoundWaitLocks x = sevenReaders(younger);
            due.is("lastWounds() before", x.lastWounds(), 0);
            x.step();
            due.is("lastTx()", x.lastTx(), 7);
            due.is("lastWounds() with " + younger + " younger", x.lastWounds(), younger);
        }
    }

    private static void actsWhenAllBlockersAreGone() {
        WoundWaitLocks readers = sevenReaders(7);
        due.is("step() of 7", readers.step(), WoundWaitLocks.EV_OP);
        due.is("holdMode(7, 0)", readers.holdMode(7, 0), WoundWaitLocks.MODE_X);
        due.is("F_PC of 7", readers.txInfo(7, WoundWaitLocks.F_PC), 1);
        due.is("rowValue(0)", readers.rowValue(0), 9);

        WoundWaitLocks x = table(3, 2);
        x.setRow(0, 7);
        x.setRow(1, 8);
        Table.script(x, 0, "r2 w0+1 w1+2");
        Table.script(x, 1, "r2 r2 r0");
        Table.beginAll(x, 1, 0);
        due.same("events", Table.events(x, 5), "2 2 2 2 2");
        due.same("values written by the younger", Table.values(x, 3), "1 2 0");
        due.is("step() of the older", x.step(), WoundWaitLocks.EV_OP);
        due.is("F_ACC of the older", x.txInfo(1, WoundWaitLocks.F_ACC), 7);
        due.same("values undone", Table.values(x, 3), "7 8 0");
        due.same("holders", Table.holders(x, 2, 0), "0 1");
        due.is("step() of the wounded one", x.step(), WoundWaitLocks.EV_RESTART);
    }

    private static void waitsForTheOlder() {
        for (int younger = 0; younger < 7; younger++) {
            WoundWaitLocks x = sevenReaders(younger);
            due.is("step() of 7 with " + younger + " younger", x.step(), WoundWaitLocks.EV_WAIT);
            waits(x, 7, WoundWaitLocks.MODE_X);
        }
        String[] first = {"w0+1", "w0+1", "r0"};
        String[] second = {"w0+2", "r0", "w0+2"};
        int[] mode = {WoundWaitLocks.MODE_X, WoundWaitLocks.MODE_S, WoundWaitLocks.MODE_X};
        for (int i = 0; i < 3; i++) {
            WoundWaitLocks x = table(1, 2);
            Table.script(x, 0, first[i]);
            Table.script(x, 1, second[i]);
            Table.beginAll(x, 0, 1);
            due.same("events " + i, Table.events(x, 2), "2 3");
            due.is("F_ABORTS of the older", x.txInfo(0, WoundWaitLocks.F_ABORTS), 0);
            due.is("lastWounds()", x.lastWounds(), 0);
            waits(x, 1, mode[i]);
        }
    }

    private static void waits(WoundWaitLocks x, int tx, int mode) {
        due.is("F_STATE", Table.state(x, tx), WoundWaitLocks.ST_WAITING);
        due.is("F_WAIT_ROW", x.txInfo(tx, WoundWaitLocks.F_WAIT_ROW), 0);
        due.is("F_WAIT_MODE", x.txInfo(tx, WoundWaitLocks.F_WAIT_MODE), mode);
        due.is("F_PC", x.txInfo(tx, WoundWaitLocks.F_PC), 0);
        due.is("holdMode", x.holdMode(tx, 0), WoundWaitLocks.MODE_NONE);
        due.same("queue", Table.queue(x, 0), "" + tx);
        due.is("rowValue(0) is not written", x.rowValue(0), x.holdMode(0, 0) == WoundWaitLocks.MODE_X ? 1 : 0);
    }

    /** 4 is older than 3 and younger than 1 and 2: it wounds 3 in the queue and stands behind the other two. */
    private static void joinsTheTail() {
        WoundWaitLocks x = table(1, 5);
        Table.script(x, 0, "w0+1 w0+1");
        for (int tx = 1; tx < 5; tx++) {
            Table.script(x, tx, tx % 2 == 0 ? "r0" : "w0+1");
        }
        Table.beginAll(x, 0, 1, 2, 4, 3);
        due.same("events", Table.events(x, 4), "2 3 3 3");
        due.same("queue before", Table.queue(x, 0), "1 2 3");
        due.is("step() of 4", x.step(), WoundWaitLocks.EV_WAIT);
        due.is("lastWounds()", x.lastWounds(), 1);
        due.same("queue after", Table.queue(x, 0), "1 2 4");
        due.same("states", Table.states(x, 5), "1 2 2 3 2");
    }

    private static void upgradeWoundsYoungerReaders() {
        WoundWaitLocks x = table(1, 3);
        Table.script(x, 0, "r0 w0+5");
        Table.script(x, 1, "r0 r0");
        Table.script(x, 2, "r0 r0");
        Table.beginAll(x, 0, 1, 2);
        due.same("events", Table.events(x, 4), "2 2 2 2");
        due.is("lastWounds()", x.lastWounds(), 2);
        due.same("holders", Table.holders(x, 3, 0), "2 0 0");
        due.is("rowValue(0)", x.rowValue(0), 5);
    }

    private static void upgradeWaitsForOlderReaders() {
        WoundWaitLocks x = table(1, 3);
        Table.script(x, 0, "r0 r0");
        Table.script(x, 1, "r0 w0+5");
        Table.script(x, 2, "r0 r0");
        Table.beginAll(x, 0, 1, 2);
        due.same("events", Table.events(x, 5), "2 2 2 2 3");
        due.is("lastWounds()", x.lastWounds(), 1);
        due.same("holders while it waits", Table.holders(x, 3, 0), "1 1 0");
        due.same("events", Table.events(x, 4), "1 5 2 3");
        due.same("holders after the handoff", Table.holders(x, 3, 0), "0 2 0");
        due.is("rowValue(0)", x.rowValue(0), 5);
    }
}
