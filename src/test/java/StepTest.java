/** Promise 5: who takes the turn, what an operation does, commits and restarts. */
public final class StepTest {
    private static final Due due = new Due("Promise 5, step");

    public static void main(String[] args) {
        due.holds("It examines transactions (c+1)%T, (c+2)%T, .., (c+T)%T, in that order.", StepTest::goesRound);
        due.holds("The first one in state ST_ACTIVE or ST_ABORTED takes a TURN", StepTest::abortedTakeTheirTurn);
        due.holds("the cursor becomes its number; lastTx becomes its number", StepTest::cursorFollows);
        due.holds("lastWounds becomes the wound count of the turn, which is 0 unless case (d) wounded.",
            StepTest::lastWoundsFollows);
        due.holds("The call answers the turn's event.", StepTest::answersTheEvent);
        due.holds("If no such transaction is found, it answers EV_NONE, lastTx becomes -1 and lastWounds becomes 0.",
            StepTest::answersNone);
        due.holds("Nothing else changes: the cursor, values, locks, queues and transactions all stay as they were.",
            StepTest::noneChangesNothing);
        due.holds("OP_READ r needs S or X on r. acc = acc + value[r], then pc = pc + 1.", StepTest::reads);
        due.holds("OP_WRITE r k needs X on r.", StepTest::writesNeedX);
        due.holds("then set value[r] = acc + k and pc = pc + 1", StepTest::writes);
        due.holds("Both sums wrap as Java int.", StepTest::sumsWrap);
        due.holds("Only the first matching case applies.", StepTest::oneCaseApplies);
        due.holds("If pc equals the script length: COMMIT(t); the event is EV_COMMIT.",
            StepTest::commitsAtTheEndOfTheScript);
        due.holds("If t holds m on r, perform op; the event is EV_OP. For m = S, holding X also counts.",
            StepTest::aLockHeldIsEnough);
        due.holds("If the request (t, m, r) is grantable: grant, perform op; the event is EV_OP.",
            StepTest::grantsAndPerformsInOneTurn);
        due.holds("t's state becomes ST_COMMITTED.", StepTest::commitKeepsTheRest);
        due.holds("Its commit rank becomes (the number of earlier commits) + 1.", StepTest::ranksCount);
        due.holds("Its undo log is emptied.", StepTest::commitIsForGood);
        due.holds("All its locks are dropped.", StepTest::commitDropsAllLocks);
        due.holds("t becomes ST_ACTIVE. This is a restart: pc and acc are 0 and the timestamp is kept."
            + " The event is EV_RESTART.", StepTest::restarts);
        due.holds("A turn changes nothing beyond what these definitions say.", StepTest::changesNothingBeyond);
        due.holds("timestamps, scripts and the timestamp counter never change during a step",
            StepTest::stepsKeepTimestampsAndScripts);
        due.holds("ST_IDLE and ST_COMMITTED transactions never take a turn", StepTest::idleAndCommittedStay);
        due.holds("ST_WAITING transactions never take a turn", StepTest::waitingStay);
        due.end();
    }

    /** Every T, every cursor c, and every set of others that may act: the first after c acts, c itself last. */
    private static void goesRound() {
        for (int txs = 2; txs <= 8; txs++) {
            for (int c = 0; c < txs; c++) {
                for (int set = 0; set < 1 << txs; set++) {
                    WoundWaitLocks x = new WoundWaitLocks(0, 1, txs);
                    Table.script(x, c, "r0 r0");
                    x.begin(c);
                    x.step();
                    int want = c;
                    for (int i = txs - 1; i >= 1; i--) {
                        int tx = (c + i) % txs;
                        if ((set >> tx & 1) == 1) {
                            x.begin(tx);
                            want = tx;
                        }
                    }
                    x.step();
                    due.is("lastTx() of " + txs + " after " + c + " in set " + set, x.lastTx(), want);
                }
            }
        }
    }

    /** 1 wounds 0 and 2; the turns of these come in their place, after 1 and round. */
    private static void abortedTakeTheirTurn() {
        WoundWaitLocks x = new WoundWaitLocks(WoundWaitLocks.WOUND_WAIT, 2, 4);
        Table.script(x, 0, "r0 r0");
        Table.script(x, 1, "r1 w0+1 w0+1");
        Table.script(x, 2, "r0 r0");
        Table.beginAll(x, 1, 0, 2);
        due.same("events", Table.events(x, 5), "2 2 2 2 2");
        due.same("states", Table.states(x, 4), "3 1 3 0");
        due.is("step() after 1", x.step(), WoundWaitLocks.EV_RESTART);
        due.is("lastTx()", x.lastTx(), 2);
        due.is("step() after 2", x.step(), WoundWaitLocks.EV_RESTART);
        due.is("lastTx()", x.lastTx(), 0);
        due.same("states", Table.states(x, 4), "1 1 1 0");
    }

    private static void cursorFollows() {
        for (int txs = 2; txs <= 8; txs++) {
            WoundWaitLocks x = new WoundWaitLocks(0, 1, txs);
            for (int tx = txs - 1; tx >= 0; tx--) {
                Table.script(x, tx, "r0 r0");
                x.begin(tx);
            }
            for (int i = 0; i < 3 * txs; i++) {
                int event = i < 2 * txs ? WoundWaitLocks.EV_OP : WoundWaitLocks.EV_COMMIT;
                due.is("step() " + i + " of " + txs, x.step(), event);
                due.is("lastTx() after step " + i + " of " + txs, x.lastTx(), i % txs);
            }
            due.is("step() in the end", x.step(), WoundWaitLocks.EV_NONE);
        }
    }

    /** 2 wounds 0 and 1; the turn after it, of any of the three, leaves no wounds to tell of. */
    private static void lastWoundsFollows() {
        WoundWaitLocks x = new WoundWaitLocks(WoundWaitLocks.WOUND_WAIT, 1, 3);
        Table.script(x, 0, "r0");
        Table.script(x, 1, "r0");
        Table.script(x, 2, "w0+1");
        Table.beginAll(x, 2, 0, 1);
        int[] wounds = {0, 0, 2, 0, 0, 0, 0, 0};
        for (int i = 0; i < wounds.length; i++) {
            x.step();
            due.is("lastWounds() after step " + i, x.lastWounds(), wounds[i]);
        }
        WoundWaitLocks y = new WoundWaitLocks(WoundWaitLocks.WAIT_DIE, 1, 2);
        Table.script(y, 0, "r0");
        Table.script(y, 1, "w0+1");
        Table.beginAll(y, 0, 1);
        due.same("events", Table.events(y, 2), "2 4");
        due.is("lastWounds() after a death", y.lastWounds(), 0);
    }

    /** What the event says is what has become of the transaction that acted; each event is met. */
    private static void answersTheEvent() {
        boolean[] met = new boolean[6];
        for (int number = 0; number < Situations.COUNT; number++) {
            WoundWaitLocks x = Situations.make(number);
            WoundWaitLocks before = Situations.make(number);
            int event = x.step();
            met[event] = true;
            due.is(Situations.name(number) + ": step()", event, eventThatLedTo(x, before));
        }
        for (int event = 0; event < met.length; event++) {
            due.yes("the event " + event + " is met", met[event]);
        }
    }

    private static int eventThatLedTo(WoundWaitLocks x, WoundWaitLocks before) {
        int tx = x.lastTx();
        if (tx == -1) {
            return WoundWaitLocks.EV_NONE;
        }
        if (Table.state(before, tx) == WoundWaitLocks.ST_ABORTED) {
            return WoundWaitLocks.EV_RESTART;
        }
        switch (Table.state(x, tx)) {
            case WoundWaitLocks.ST_COMMITTED:
                return WoundWaitLocks.EV_COMMIT;
            case WoundWaitLocks.ST_WAITING:
                return WoundWaitLocks.EV_WAIT;
            case WoundWaitLocks.ST_ABORTED:
                return WoundWaitLocks.EV_DIE;
            default:
                return WoundWaitLocks.EV_OP;
        }
    }

    /** On a fresh object, and after the commit of each transaction as the only one begun. */
    private static void answersNone() {
        WoundWaitLocks fresh = new WoundWaitLocks(0, 1, 2);
        due.is("step() of a fresh object", fresh.step(), WoundWaitLocks.EV_NONE);
        due.is("lastTx()", fresh.lastTx(), -1);
        due.is("lastWounds()", fresh.lastWounds(), 0);
        for (int txs = 2; txs <= 8; txs++) {
            for (int tx = 0; tx < txs; tx++) {
                WoundWaitLocks x = new WoundWaitLocks(0, 1, txs);
                x.begin(tx);
                due.is("step()", x.step(), WoundWaitLocks.EV_COMMIT);
                due.is("lastTx()", x.lastTx(), tx);
                due.is("step() when " + tx + " of " + txs + " is done", x.step(), WoundWaitLocks.EV_NONE);
                due.is("lastTx()", x.lastTx(), -1);
                due.is("lastWounds()", x.lastWounds(), 0);
            }
        }
    }

    /** The cursor is looked at by those that begin later: the next one after it acts first. */
    private static void noneChangesNothing() {
        for (int txs = 3; txs <= 8; txs++) {
            for (int done = 0; done < txs; done++) {
                WoundWaitLocks x = new WoundWaitLocks(0, 2, txs);
                Table.script(x, done, "w0+9 r1");
                x.begin(done);
                x.run(3);
                String before = Table.shownBesideTurn(x);
                due.same("events", Table.events(x, 3), "0 0 0");
                due.same("the state after EV_NONE", Table.shownBesideTurn(x), before);
                int next = (done + 1) % txs;
                int last = (done + txs - 1) % txs;
                Table.beginAll(x, last, next);
                x.step();
                due.is("the turn after " + done + " of " + txs, x.lastTx(), next);
                x.step();
                due.is("the turn after " + next + " of " + txs, x.lastTx(), last);
            }
        }
    }

    private static void reads() {
        WoundWaitLocks x = new WoundWaitLocks(1, 3, 2);
        x.setRow(0, 10);
        x.setRow(1, -3);
        Table.script(x, 0, "r0 r1 r0 r2");
        x.begin(0);
        int[] acc = {10, 7, 17, 17};
        for (int i = 0; i < acc.length; i++) {
            due.is("step() " + i, x.step(), WoundWaitLocks.EV_OP);
            due.is("F_PC after " + i, x.txInfo(0, WoundWaitLocks.F_PC), i + 1);
            due.is("F_ACC after " + i, x.txInfo(0, WoundWaitLocks.F_ACC), acc[i]);
            due.same("values after " + i, Table.values(x, 3), "10 -3 0");
        }
    }

    /** An S lock, of one's own or of another, is not enough; with it alone the row keeps its value. */
    private static void writesNeedX() {
        WoundWaitLocks x = new WoundWaitLocks(WoundWaitLocks.WOUND_WAIT, 1, 2);
        x.setRow(0, 3);
        Table.script(x, 0, "r0 r0 r0");
        Table.script(x, 1, "r0 w0+4");
        Table.beginAll(x, 0, 1);
        due.same("events", Table.events(x, 4), "2 2 2 3");
        due.same("holders", Table.holders(x, 2, 0), "1 1");
        due.is("rowValue(0) with S alone", x.rowValue(0), 3);
        due.same("events", Table.events(x, 2), "2 5");
        due.same("holders", Table.holders(x, 2, 0), "0 2");
        due.is("rowValue(0) before the turn", x.rowValue(0), 3);
        due.is("step()", x.step(), WoundWaitLocks.EV_OP);
        due.is("rowValue(0) with X", x.rowValue(0), 7);
    }

    private static void writes() {
        WoundWaitLocks x = new WoundWaitLocks(1, 3, 2);
        x.setRow(0, 10);
        x.setRow(1, 20);
        Table.script(x, 0, "w1+4 r0 w1-3 w2+0 w1+1");
        x.begin(0);
        String[] values = {"10 4 0", "10 4 0", "10 7 0", "10 7 10", "10 11 10"};
        for (int i = 0; i < values.length; i++) {
            due.is("step() " + i, x.step(), WoundWaitLocks.EV_OP);
            due.is("F_PC after " + i, x.txInfo(0, WoundWaitLocks.F_PC), i + 1);
            due.is("F_ACC after " + i, x.txInfo(0, WoundWaitLocks.F_ACC), i == 0 ? 0 : 10);
            due.same("values after " + i, Table.values(x, 3), values[i]);
        }
    }

    /** Every pair of numbers for the sum of a read and for the sum of a write, many of them beyond int. */
    private static void sumsWrap() {
        due.is("the wrap that is meant", Integer.MAX_VALUE + 1, Integer.MIN_VALUE);
        for (int first : Table.ANY) {
            for (int second : Table.ANY) {
                WoundWaitLocks x = new WoundWaitLocks(0, 3, 2);
                x.setRow(0, first);
                x.setRow(1, second);
                x.addOp(0, WoundWaitLocks.OP_READ, 0, 0);
                x.addOp(0, WoundWaitLocks.OP_WRITE, 2, second);
                x.addOp(0, WoundWaitLocks.OP_READ, 1, 0);
                x.begin(0);
                x.run(3);
                due.is("rowValue(2) of " + first + " and " + second, x.rowValue(2), first + second);
                due.is("F_ACC of " + first + " and " + second, x.txInfo(0, WoundWaitLocks.F_ACC), first + second);
            }
        }
    }

    private static void commitsAtTheEndOfTheScript() {
        for (int length = 0; length <= 8; length++) {
            WoundWaitLocks x = new WoundWaitLocks(1, 1, 2);
            for (int i = 0; i < length; i++) {
                x.addOp(0, 1 + i % 2, 0, 0);
            }
            x.begin(0);
            for (int i = 0; i < length; i++) {
                due.is("step() " + i + " of " + length, x.step(), WoundWaitLocks.EV_OP);
                due.is("F_STATE", Table.state(x, 0), WoundWaitLocks.ST_ACTIVE);
            }
            due.is("step() after all " + length, x.step(), WoundWaitLocks.EV_COMMIT);
            due.is("F_STATE", Table.state(x, 0), WoundWaitLocks.ST_COMMITTED);
            due.is("F_PC", x.txInfo(0, WoundWaitLocks.F_PC), length);
        }
    }

    /** An operation is not followed by the next one or by the commit, nor a restart by an operation. */
    private static void oneCaseApplies() {
        WoundWaitLocks x = new WoundWaitLocks(WoundWaitLocks.WOUND_WAIT, 1, 2);
        Table.script(x, 0, "w0+1");
        Table.script(x, 1, "r0 r0");
        Table.beginAll(x, 1, 0);
        due.is("step() of 0", x.step(), WoundWaitLocks.EV_OP);
        due.is("F_STATE of 0 after its last operation", Table.state(x, 0), WoundWaitLocks.ST_ACTIVE);
        due.is("step() of 1", x.step(), WoundWaitLocks.EV_OP);
        due.is("F_PC of 1 after its first operation", x.txInfo(1, WoundWaitLocks.F_PC), 1);
        due.is("step() of 0", x.step(), WoundWaitLocks.EV_RESTART);
        due.is("F_PC of 0 after its restart", x.txInfo(0, WoundWaitLocks.F_PC), 0);
        due.same("holders", Table.holders(x, 2, 0), "0 1");
        due.same("events", Table.events(x, 2), "2 3");
        due.is("step() of 1", x.step(), WoundWaitLocks.EV_COMMIT);
        due.same("holders after the commit", Table.holders(x, 2, 0), "2 0");
        due.is("rowValue(0) before the turn of the one admitted", x.rowValue(0), 0);
    }

    /** A read and a write of a free row, the first and the last one; the lock and the deed come together. */
    private static void grantsAndPerformsInOneTurn() {
        for (int policy = 0; policy <= 1; policy++) {
            for (int row = 0; row < 16; row += 15) {
                WoundWaitLocks x = new WoundWaitLocks(policy, 16, 8);
                x.setRow(row, 6);
                Table.script(x, 7, "r" + row + " w" + (15 - row) + "+1 w" + row + "+2");
                x.begin(7);
                due.same("a read", Table.changesOfStep(x), "tx7 pc 1, tx7 acc 6, tx7 on row" + row + " 1");
                due.same("a write", Table.changesOfStep(x),
                    "tx7 pc 2, tx7 on row" + (15 - row) + " 2, row" + (15 - row) + " value 7");
                due.same("an upgrade", Table.changesOfStep(x),
                    "tx7 pc 3, tx7 on row" + row + " 2, row" + row + " value 8");
            }
        }
    }

    /** The lock is held although others wait for the row, which would block a new request. */
    private static void aLockHeldIsEnough() {
        for (int policy = 0; policy <= 1; policy++) {
            String[] scripts = {"r0 r0 r0", "w0+5 r0 w0+1", "w0+5 w0+6 r0"};
            int[] modes = {WoundWaitLocks.MODE_S, WoundWaitLocks.MODE_X, WoundWaitLocks.MODE_X};
            for (int i = 0; i < scripts.length; i++) {
                WoundWaitLocks x = new WoundWaitLocks(policy, 1, 2);
                Table.script(x, 0, scripts[i]);
                Table.script(x, 1, "w0+7");
                boolean holderIsOlder = policy == WoundWaitLocks.WOUND_WAIT;
                Table.beginAll(x, holderIsOlder ? 0 : 1, holderIsOlder ? 1 : 0);
                due.same("events of " + scripts[i], Table.events(x, 4), "2 3 2 2");
                due.is("holdMode(0, 0) of " + scripts[i], x.holdMode(0, 0), modes[i]);
                due.same("queue", Table.queue(x, 0), "1");
                due.is("lastWounds()", x.lastWounds(), 0);
            }
        }
    }

    private static void commitKeepsTheRest() {
        WoundWaitLocks x = new WoundWaitLocks(0, 3, 3);
        x.setRow(2, 4);
        Table.script(x, 1, "r2 w0+1 w1+2");
        x.begin(1);
        x.run(4);
        due.same("states", Table.states(x, 3), "0 4 0");
        due.is("F_TIMESTAMP", Table.timestamp(x, 1), 1);
        due.is("F_PC", x.txInfo(1, WoundWaitLocks.F_PC), 3);
        due.is("F_ACC", x.txInfo(1, WoundWaitLocks.F_ACC), 4);
        due.is("F_ABORTS", x.txInfo(1, WoundWaitLocks.F_ABORTS), 0);
        due.same("values", Table.values(x, 3), "5 6 4");
    }

    private static void ranksCount() {
        int[] order = {3, 6, 0, 7, 1, 5, 2, 4};
        WoundWaitLocks x = new WoundWaitLocks(0, 1, 8);
        for (int i = 0; i < order.length; i++) {
            x.begin(order[i]);
            due.is("step()", x.step(), WoundWaitLocks.EV_COMMIT);
            due.is("F_COMMIT_RANK of " + order[i], x.txInfo(order[i], WoundWaitLocks.F_COMMIT_RANK), i + 1);
        }
        for (int i = 0; i < order.length; i++) {
            due.is("F_COMMIT_RANK of " + order[i], x.txInfo(order[i], WoundWaitLocks.F_COMMIT_RANK), i + 1);
        }
    }

    /** What 0 has committed stays, whoever is aborted on the same rows later. */
    private static void commitIsForGood() {
        for (int policy = 0; policy <= 1; policy++) {
            WoundWaitLocks x = new WoundWaitLocks(policy, 2, 3);
            Table.script(x, 0, "w0+5 w1+6 w0+7");
            x.begin(0);
            x.run(4);
            due.same("values after the commit", Table.values(x, 2), "7 6");
            Table.script(x, 1, "w0+1 w1+1");
            Table.script(x, 2, "w1+2 r0");
            Table.beginAll(x, 2, 1);
            due.same("events", Table.events(x, 3), "2 2 " + (policy == 0 ? "3" : "4"));
            x.run(1);
            due.is("F_ABORTS of 1", x.txInfo(1, WoundWaitLocks.F_ABORTS), 1);
            due.same("values after the abort", Table.values(x, 2), "7 2");
            due.is("F_ACC of 2", x.txInfo(2, WoundWaitLocks.F_ACC), 7);
            due.is("F_STATE of 0", Table.state(x, 0), WoundWaitLocks.ST_COMMITTED);
        }
    }

    /** As many locks as a script can take, on the first and the last rows. */
    private static void commitDropsAllLocks() {
        WoundWaitLocks x = new WoundWaitLocks(0, 16, 8);
        Table.script(x, 7, "r0 w1+1 r2 w3+1 r12 w13+1 r14 w15+1");
        Table.script(x, 6, "r0 r2 r4 r15");
        Table.beginAll(x, 6, 7);
        x.run(6);
        due.is("run of the rest of both", x.run(64), 8);
        for (int row = 0; row < 16; row++) {
            due.same("holders of " + row, Table.holders(x, 8, row), "0 0 0 0 0 0 0 0");
        }
    }

    private static void restarts() {
        WoundWaitLocks x = new WoundWaitLocks(WoundWaitLocks.WAIT_DIE, 2, 2);
        x.setRow(1, 8);
        Table.script(x, 0, "w0+1 w0+2");
        Table.script(x, 1, "r1 r0");
        Table.beginAll(x, 0, 1);
        due.same("events", Table.events(x, 5), "2 2 2 4 5");
        String before = Table.shownBesideTurn(x);
        due.is("step()", x.step(), WoundWaitLocks.EV_RESTART);
        due.same("the state but for its own", Table.shownBesideTurn(x), before.replace("tx1[0 3 2 ", "tx1[0 1 2 "));
        due.is("F_STATE", Table.state(x, 1), WoundWaitLocks.ST_ACTIVE);
        due.is("F_TIMESTAMP", Table.timestamp(x, 1), 2);
        due.is("F_PC", x.txInfo(1, WoundWaitLocks.F_PC), 0);
        due.is("F_ACC", x.txInfo(1, WoundWaitLocks.F_ACC), 0);
        due.is("F_ABORTS", x.txInfo(1, WoundWaitLocks.F_ABORTS), 1);
        due.is("lastWounds()", x.lastWounds(), 0);
        due.same("events", Table.events(x, 3), "2 2 5");
        due.is("F_ACC in the end", x.txInfo(1, WoundWaitLocks.F_ACC), 10);
    }

    private static void changes(WoundWaitLocks x, String... turns) {
        for (int i = 0; i < turns.length; i++) {
            due.same("the changes of step " + i, Table.changesOfStep(x), turns[i]);
        }
    }

    /** Every case of a turn, with all that it changes: what is not told here stays as it was. */
    private static void changesNothingBeyond() {
        WoundWaitLocks x = new WoundWaitLocks(WoundWaitLocks.WOUND_WAIT, 3, 4);
        x.setRow(0, 5);
        Table.script(x, 0, "w0+1 w0+2 r1");
        Table.script(x, 1, "w1+3 r0");
        Table.script(x, 2, "r2 r1");
        Table.beginAll(x, 1, 0, 2);
        changes(x, "tx0 pc 1, tx0 on row0 2, row0 value 1", "tx1 pc 1, tx1 on row1 2, row1 value 3",
            "tx2 pc 1, tx2 on row2 1", "tx0 pc 2, row0 value 2",
            "tx0 state 3, tx0 pc 0, tx0 aborts 1, tx0 on row0 0, tx1 pc 2, tx1 acc 5, tx1 on row0 1, row0 value 5",
            "tx2 state 2, tx2 wait row 1, tx2 wait mode 1, row1 queue 2", "tx0 state 1",
            "tx1 state 4, tx1 rank 1, tx1 on row0 0, tx1 on row1 0, tx2 state 1, tx2 wait row -1, tx2 wait mode 0,"
            + " tx2 on row1 1, row1 queue , commits 1",
            "tx2 pc 2, tx2 acc 3");

        WoundWaitLocks y = new WoundWaitLocks(WoundWaitLocks.WAIT_DIE, 2, 2);
        Table.script(y, 0, "r1 w0+1");
        Table.script(y, 1, "w0+9 w1+8");
        Table.beginAll(y, 0, 1);
        changes(y, "tx0 pc 1, tx0 on row1 1", "tx1 pc 1, tx1 on row0 2, row0 value 9",
            "tx0 state 2, tx0 wait row 0, tx0 wait mode 2, row0 queue 0",
            "tx0 state 1, tx0 wait row -1, tx0 wait mode 0, tx0 on row0 2, tx1 state 3, tx1 pc 0, tx1 aborts 1,"
            + " tx1 on row0 0, row0 value 0, row0 queue ",
            "tx0 pc 2, row0 value 1");
    }

    private static void stepsKeepTimestampsAndScripts() {
        for (int number = 0; number < Situations.COUNT; number++) {
            WoundWaitLocks x = Situations.make(number);
            WoundWaitLocks before = Situations.make(number);
            x.step();
            for (int tx = 0; tx < Situations.TXS; tx++) {
                String name = Situations.name(number) + ": transaction " + tx;
                due.is(name + ", timestamp", Table.timestamp(x, tx), Table.timestamp(before, tx));
                int length = before.txInfo(tx, WoundWaitLocks.F_LENGTH);
                due.is(name + ", length", x.txInfo(tx, WoundWaitLocks.F_LENGTH), length);
            }
            due.is("the next begin", x.begin(Situations.IDLE_TX), before.begin(Situations.IDLE_TX));
        }
    }

    private static void nobodyActsFrom(int state, int number) {
        WoundWaitLocks x = Situations.make(number);
        String before = Table.states(x, Situations.TXS);
        x.step();
        if (x.lastTx() >= 0) {
            int was = before.charAt(2 * x.lastTx()) - '0';
            due.no(Situations.name(number) + ": one in state " + state + " acts", was == state);
        }
    }

    private static void idleAndCommittedStay() {
        for (int number = 0; number < Situations.COUNT; number++) {
            nobodyActsFrom(WoundWaitLocks.ST_IDLE, number);
            nobodyActsFrom(WoundWaitLocks.ST_COMMITTED, number);
        }
        WoundWaitLocks x = new WoundWaitLocks(0, 1, 3);
        Table.script(x, 0, "r0");
        x.begin(1);
        due.same("events with 0 idle and 1 committed", Table.events(x, 3), "5 0 0");
        due.same("states", Table.states(x, 3), "0 4 0");
    }

    /** All but the holder wait, so that the holder takes every turn until its commit. */
    private static void waitingStay() {
        for (int number = 0; number < Situations.COUNT; number++) {
            nobodyActsFrom(WoundWaitLocks.ST_WAITING, number);
        }
        WoundWaitLocks x = new WoundWaitLocks(WoundWaitLocks.WOUND_WAIT, 1, 8);
        Table.script(x, 0, "w0+1 w0+2 w0+3 w0+4 w0+5 w0+6 w0+7 w0+8");
        x.begin(0);
        for (int tx = 1; tx < 8; tx++) {
            Table.script(x, tx, "w0+1");
            x.begin(tx);
        }
        due.same("events", Table.events(x, 8), "2 3 3 3 3 3 3 3");
        for (int i = 1; i < 8; i++) {
            due.is("step()", x.step(), WoundWaitLocks.EV_OP);
            due.is("lastTx()", x.lastTx(), 0);
        }
        due.same("states", Table.states(x, 8), "1 2 2 2 2 2 2 2");
    }
}
