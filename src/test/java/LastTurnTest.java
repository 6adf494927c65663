/** Promise 11: lastTx and lastWounds. */
public final class LastTurnTest {
    private static final Due due = new Due("Promise 11");

    public static void main(String[] args) {
        due.holds("answers the transaction that took the last step's turn", LastTurnTest::lastTxFollowsEachStep);
        due.holds("It answers -1 if no step has been taken yet", LastTurnTest::lastTxIsMinusOneBeforeAnyStep);
        due.holds("or if the last step answered EV_NONE.", LastTurnTest::lastTxIsMinusOneAfterNone);
        due.holds("answers the number of transactions wounded (aborted by case (d)) in the last step",
            LastTurnTest::countsEveryWound);
        due.holds("It answers 0 on a fresh object", LastTurnTest::woundsAreZeroBeforeAnyStep);
        due.holds("after a step with no wounds", LastTurnTest::woundsAreZeroAfterAnyOtherTurn);
        due.holds("and after a step answering EV_NONE.", LastTurnTest::woundsAreZeroAfterNone);
        due.holds("Only step (and so run) changes these.", LastTurnTest::onlyStepsChangeThem);
        due.holds("Neither method changes anything.", LastTurnTest::changeNothing);
        due.end();
    }

    private static void last(String when, WoundWaitLocks x, int tx, int wounds) {
        due.is(when + ": lastTx()", x.lastTx(), tx);
        due.is(when + ": lastWounds()", x.lastWounds(), wounds);
    }

    /** 0 takes the row, and 2 wounds it. */
    private static WoundWaitLocks wounding() {
        WoundWaitLocks x = new WoundWaitLocks(WoundWaitLocks.WOUND_WAIT, 1, 4);
        Table.script(x, 0, "w0+1");
        Table.script(x, 2, "w0+2");
        Table.beginAll(x, 2, 0);
        return x;
    }

    private static void lastTxFollowsEachStep() {
        WoundWaitLocks x = wounding();
        int[] turns = {0, 2, 0, 2, 0, 0, -1, -1};
        String[] events = {"2", "2", "1", "5", "2", "5", "0", "0"};
        for (int i = 0; i < turns.length; i++) {
            due.same("the event", Table.events(x, 1), events[i]);
            due.is("lastTx() after step " + i, x.lastTx(), turns[i]);
        }
        WoundWaitLocks y = wounding();
        y.run(4);
        due.is("lastTx() after a run of 4", y.lastTx(), 2);
    }

    private static void lastTxIsMinusOneBeforeAnyStep() {
        for (int txs = 2; txs <= 8; txs++) {
            WoundWaitLocks x = new WoundWaitLocks(1, 1, txs);
            due.is("lastTx() of a fresh object", x.lastTx(), -1);
            x.setRow(0, 3);
            Table.script(x, 0, "r0");
            Table.beginAll(x, 0, 1);
            due.is("lastTx() with some begun", x.lastTx(), -1);
            x.step();
            due.is("lastTx() after a step", x.lastTx(), 0);
        }
    }

    private static void lastTxIsMinusOneAfterNone() {
        WoundWaitLocks fresh = new WoundWaitLocks(0, 1, 2);
        due.is("step()", fresh.step(), WoundWaitLocks.EV_NONE);
        due.is("lastTx()", fresh.lastTx(), -1);
        WoundWaitLocks x = wounding();
        x.run(6);
        due.is("lastTx() after the last commit", x.lastTx(), 0);
        due.is("step()", x.step(), WoundWaitLocks.EV_NONE);
        due.is("lastTx()", x.lastTx(), -1);
        x.begin(3);
        due.is("lastTx() after a begin", x.lastTx(), -1);
        due.is("step()", x.step(), WoundWaitLocks.EV_COMMIT);
        due.is("lastTx() after a turn", x.lastTx(), 3);
    }

    private static void countsEveryWound() {
        for (int readers = 1; readers <= 7; readers++) {
            WoundWaitLocks x = new WoundWaitLocks(WoundWaitLocks.WOUND_WAIT, 1, 8);
            Table.script(x, 7, "w0+1");
            x.begin(7);
            for (int tx = 0; tx < readers; tx++) {
                Table.script(x, tx, "r0");
                x.begin(tx);
            }
            x.run(readers + 1);
            last("after wounding " + readers, x, 7, readers);
        }
    }

    private static void woundsAreZeroBeforeAnyStep() {
        WoundWaitLocks x = new WoundWaitLocks(0, 1, 4);
        due.is("lastWounds() of a fresh object", x.lastWounds(), 0);
        due.is("lastWounds() before the first step", wounding().lastWounds(), 0);
    }

    /** A turn that wounded lies before each other kind of turn, so that a count left over would show. */
    private static void woundsAreZeroAfterAnyOtherTurn() {
        String[] nexts = {"r1", "w0+1", ""};
        int[] events = {WoundWaitLocks.EV_OP, WoundWaitLocks.EV_WAIT, WoundWaitLocks.EV_COMMIT};
        for (int i = 0; i < nexts.length; i++) {
            WoundWaitLocks x = new WoundWaitLocks(WoundWaitLocks.WOUND_WAIT, 2, 4);
            Table.script(x, 0, "w0+1");
            Table.script(x, 2, "w0+2");
            Table.beginAll(x, 2, 0);
            x.run(2);
            last("after a wound", x, 2, 1);
            if (!nexts[i].isEmpty()) {
                Table.script(x, 3, nexts[i]);
            }
            x.begin(3);
            due.is("step() of 3", x.step(), events[i]);
            last("after event " + events[i], x, 3, 0);
        }
        WoundWaitLocks x = wounding();
        x.run(2);
        due.is("step() of the wounded", x.step(), WoundWaitLocks.EV_RESTART);
        last("after a restart", x, 0, 0);

        WoundWaitLocks y = new WoundWaitLocks(WoundWaitLocks.WAIT_DIE, 1, 2);
        Table.script(y, 0, "w0+1");
        Table.script(y, 1, "w0+2");
        Table.beginAll(y, 0, 1);
        due.same("events", Table.events(y, 2), "2 4");
        last("after a death", y, 1, 0);
    }

    private static void woundsAreZeroAfterNone() {
        WoundWaitLocks fresh = new WoundWaitLocks(0, 1, 2);
        due.is("step()", fresh.step(), WoundWaitLocks.EV_NONE);
        due.is("lastWounds()", fresh.lastWounds(), 0);
        WoundWaitLocks x = wounding();
        x.run(2);
        due.is("lastWounds() before", x.lastWounds(), 1);
        x.run(64);
        last("after a run up to EV_NONE", x, -1, 0);
    }

    private static void onlyStepsChangeThem() {
        WoundWaitLocks x = wounding();
        x.run(2);
        last("before", x, 2, 1);
        due.is("begin(3)", x.begin(3), 3);
        last("after a begin", x, 2, 1);
        due.yes("addOp", x.addOp(1, 1, 0, 0));
        last("after an addOp", x, 2, 1);
        x.begin(0);
        x.begin(9);
        x.addOp(1, 7, 0, 0);
        x.setRow(0, 3);
        last("after refused calls", x, 2, 1);
        Table.shown(x);
        last("after queries", x, 2, 1);
    }

    private static void changeNothing() {
        Situations.unchangedBy(due, "lastTx and lastWounds", x -> {
            x.lastTx();
            x.lastWounds();
        });
    }
}
