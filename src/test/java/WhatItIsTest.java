/** The section "What it is". */
public final class WhatItIsTest {
    private static final Due due = new Due("What it is");

    public static void main(String[] args) {
        due.holds("It prevents deadlock by timestamp order, under one of two policies: wound-wait or wait-die.",
            WhatItIsTest::crossedWritersGoByAge);
        due.holds("Aborted transactions have their writes undone in reverse order and restart later under their"
            + " original timestamp.", WhatItIsTest::theAbortedAreUndoneAndRestart);
        due.holds("A round-robin scheduler lets one transaction act per step.", WhatItIsTest::oneActsPerStep);
        due.holds("There are R rows (0..R-1), each holding an int value, initially 0.",
            WhatItIsTest::rowsAreZeroAtFirst);
        due.holds("There are T transactions (0..T-1).", WhatItIsTest::thereAreTTransactions);
        due.holds("a script of at most 8 operations", WhatItIsTest::scriptsHoldEight);
        due.holds("a timestamp, which is 0 until begun", WhatItIsTest::timestampIsZeroUntilBegun);
        due.holds("a commit rank, which is 0 until committed", WhatItIsTest::rankIsZeroUntilCommitted);
        due.holds("On each row, a transaction holds no lock, a shared lock (S) or an exclusive lock (X).",
            WhatItIsTest::locksAreNoneSharedOrExclusive);
        due.holds("Each row has a FIFO wait queue, where position 0 is the head.", WhatItIsTest::queuesAreFifo);
        due.holds("A transaction is in a queue exactly when its state is ST_WAITING, and then it is in exactly one"
            + " queue.", WhatItIsTest::theWaitingAreInOneQueue);
        due.holds("Its wait row and wait mode name that queue and the mode it asked for. Otherwise its wait row is"
            + " -1 and its wait mode is 0.", WhatItIsTest::waitRowAndModeNameTheRequest);
        due.holds("The timestamp counter starts at 1. Each successful begin gives the counter's value and then adds"
            + " 1.", WhatItIsTest::onlySuccessfulBeginsCount);
        due.holds("A smaller timestamp means older.", WhatItIsTest::smallerMeansOlder);
        due.holds("A transaction keeps its timestamp through every abort and restart.",
            WhatItIsTest::timestampsOutliveAborts);
        due.holds("All arithmetic wraps as Java int.", WhatItIsTest::arithmeticWraps);
        due.holds("Every call accepts any int arguments.", WhatItIsTest::anyArgumentsAreAccepted);
        due.holds("A refused call changes nothing at all.", WhatItIsTest::refusedCallsChangeNothing);
        due.holds("ST_IDLE = 0: not yet begun; script editable.", WhatItIsTest::theIdleAreEditable);
        due.holds("ST_ABORTED = 3: rolled back, awaits restart.", WhatItIsTest::theAbortedAwaitRestart);
        due.holds("EV_NONE = 0: nothing could take a turn.", WhatItIsTest::noneWhenNothingCanAct);
        due.end();
    }

    /** Two write the same two rows crosswise; who is wounded, waits or dies is a matter of age alone. */
    private static void crossedWritersGoByAge() {
        String[] events = {"2 2 2 1 5 2 2 5 0", "2 2 3 2 1 5 2 2 5 0", "2 2 3 4 2 1 5 2 2 5 0", "2 2 4 2 1 5 2 2 5 0"};
        for (int policy = 0; policy <= 1; policy++) {
            for (int older = 0; older <= 1; older++) {
                WoundWaitLocks x = new WoundWaitLocks(policy, 2, 2);
                Table.script(x, 0, "w0+1 w1+1");
                Table.script(x, 1, "w1+2 w0+2");
                Table.beginAll(x, older, 1 - older);
                String want = events[2 * policy + older];
                int steps = want.split(" ").length;
                due.same("events under " + policy + " with " + older + " older", Table.events(x, steps), want);
                due.is("F_COMMIT_RANK of the older", x.txInfo(older, WoundWaitLocks.F_COMMIT_RANK), 1);
                due.is("F_ABORTS of the older", x.txInfo(older, WoundWaitLocks.F_ABORTS), 0);
                due.is("F_ABORTS of the younger", x.txInfo(1 - older, WoundWaitLocks.F_ABORTS), 1);
            }
        }
    }

    /** 0 has written row 0 three times and read it between, when 1 wounds it. */
    private static void theAbortedAreUndoneAndRestart() {
        WoundWaitLocks x = new WoundWaitLocks(WoundWaitLocks.WOUND_WAIT, 2, 2);
        x.setRow(0, 40);
        Table.script(x, 0, "w0+1 w0+2 r0 w0+3");
        Table.script(x, 1, "r1 r1 r1 r0");
        Table.beginAll(x, 1, 0);
        x.run(7);
        due.is("rowValue(0) when written", x.rowValue(0), 5);
        due.is("step() of 1", x.step(), WoundWaitLocks.EV_OP);
        due.is("lastWounds()", x.lastWounds(), 1);
        due.is("rowValue(0) when undone", x.rowValue(0), 40);
        due.is("step() of 0", x.step(), WoundWaitLocks.EV_RESTART);
        due.is("F_TIMESTAMP of 0", Table.timestamp(x, 0), 2);
        due.same("events", Table.events(x, 6), "5 2 2 2 2 5");
        due.is("rowValue(0) in the end", x.rowValue(0), 5);
    }

    /** Each has a row to itself, so that every step moves the pc of one alone, and of each in its turn. */
    private static void oneActsPerStep() {
        for (int txs = 2; txs <= 8; txs++) {
            WoundWaitLocks x = new WoundWaitLocks(0, 8, txs);
            for (int tx = 0; tx < txs; tx++) {
                Table.script(x, tx, "r" + tx + " w" + tx + "+1 r" + tx);
                x.begin(tx);
            }
            for (int i = 0; i < 3 * txs; i++) {
                x.step();
                for (int tx = 0; tx < txs; tx++) {
                    int turns = i / txs + (tx <= i % txs ? 1 : 0);
                    due.is("F_PC of " + tx + " after step " + i, x.txInfo(tx, WoundWaitLocks.F_PC), turns);
                }
            }
        }
    }

    private static void rowsAreZeroAtFirst() {
        for (int rows = 1; rows <= 16; rows++) {
            WoundWaitLocks x = new WoundWaitLocks(0, rows, 2);
            for (int row = 0; row < rows; row++) {
                due.is("rowValue(" + row + ") of " + rows, x.rowValue(row), 0);
                due.yes("setRow(" + row + ", 1) of " + rows, x.setRow(row, 1));
            }
            due.no("setRow(" + rows + ", 1) of " + rows, x.setRow(rows, 1));
        }
    }

    private static void thereAreTTransactions() {
        for (int txs = 2; txs <= 8; txs++) {
            WoundWaitLocks x = new WoundWaitLocks(0, 1, txs);
            for (int tx = 0; tx < txs; tx++) {
                due.is("begin(" + tx + ") of " + txs, x.begin(tx), tx + 1);
            }
            due.is("begin(" + txs + ") of " + txs, x.begin(txs), 0);
        }
    }

    /** All scripts full at once, each with writes of its own, so that none runs over into the next. */
    private static void scriptsHoldEight() {
        WoundWaitLocks x = new WoundWaitLocks(0, 16, 8);
        for (int tx = 0; tx < 8; tx++) {
            for (int i = 0; i < 8; i++) {
                due.yes("addOp " + i + " of " + tx, x.addOp(tx, WoundWaitLocks.OP_WRITE, tx, 10 * tx + i));
            }
            due.no("addOp 8 of " + tx, x.addOp(tx, WoundWaitLocks.OP_WRITE, tx, 99));
            due.is("F_LENGTH of " + tx, x.txInfo(tx, WoundWaitLocks.F_LENGTH), 8);
        }
        Table.beginAll(x, 0, 1, 2, 3, 4, 5, 6, 7);
        for (int i = 0; i < 8; i++) {
            due.is("run(8)", x.run(8), 8);
            for (int tx = 0; tx < 8; tx++) {
                due.is("rowValue(" + tx + ") after operation " + i, x.rowValue(tx), 10 * tx + i);
            }
        }
        due.same("events", Table.events(x, 9), "5 5 5 5 5 5 5 5 0");
    }

    private static void timestampIsZeroUntilBegun() {
        for (int number = 0; number < Situations.COUNT; number++) {
            WoundWaitLocks x = Situations.make(number);
            for (int tx = 0; tx < Situations.TXS; tx++) {
                boolean idle = Table.state(x, tx) == WoundWaitLocks.ST_IDLE;
                String name = Situations.name(number) + ": the timestamp of " + tx;
                due.yes(name, idle ? Table.timestamp(x, tx) == 0 : Table.timestamp(x, tx) >= 1);
            }
        }
    }

    private static void rankIsZeroUntilCommitted() {
        int committed = 0;
        for (int number = 0; number < Situations.COUNT; number++) {
            WoundWaitLocks x = Situations.make(number);
            for (int tx = 0; tx < Situations.TXS; tx++) {
                boolean done = Table.state(x, tx) == WoundWaitLocks.ST_COMMITTED;
                int rank = x.txInfo(tx, WoundWaitLocks.F_COMMIT_RANK);
                committed += done ? 1 : 0;
                due.yes(Situations.name(number) + ": the rank of " + tx, done ? rank >= 1 : rank == 0);
            }
        }
        due.yes("some were committed", committed > 0);
    }

    /** The three modes are met in the situations, and X of one never beside a lock of another. */
    private static void locksAreNoneSharedOrExclusive() {
        boolean[] met = new boolean[3];
        for (int number = 0; number < Situations.COUNT; number++) {
            WoundWaitLocks x = Situations.make(number);
            for (int row = 0; row < Situations.ROWS; row++) {
                String modes = Table.holders(x, Situations.TXS, row);
                String name = Situations.name(number) + ": the locks on " + row + ", " + modes;
                due.yes(name, modes.matches("[01 ]*|[0 ]*2[0 ]*"));
                for (int mode = 0; mode <= 2; mode++) {
                    met[mode] |= modes.contains("" + mode);
                }
            }
        }
        due.yes("each mode is met", met[0] && met[1] && met[2]);
    }

    /** The head is the first that came, and the first to go; seven stand in the queue of the last row. */
    private static void queuesAreFifo() {
        WoundWaitLocks x = new WoundWaitLocks(WoundWaitLocks.WOUND_WAIT, 16, 8);
        int[] order = {4, 7, 0, 2, 6, 1, 5, 3};
        for (int i = 0; i < order.length; i++) {
            Table.script(x, order[i], i == 0 ? "w15+1 w15+1 w15+1 w15+1 w15+1 w15+1 w15+1 w15+1" : "w15+1");
            x.begin(order[i]);
            x.run(i == 0 ? 1 : 2);
            due.is("queueLength(15)", x.queueLength(15), i);
        }
        due.same("queue", Table.queue(x, 15), "7 0 2 6 1 5 3");
        for (int i = 1; i < order.length; i++) {
            due.is("queueAt(15, 0)", x.queueAt(15, 0), order[i]);
            due.is("step() of the holder", x.step(), WoundWaitLocks.EV_COMMIT);
            due.is("holdMode of the head", x.holdMode(order[i], 15), WoundWaitLocks.MODE_X);
            due.is("step() of the head", x.step(), WoundWaitLocks.EV_OP);
        }
    }

    private static int placesInQueues(WoundWaitLocks x, int tx) {
        int places = 0;
        for (int row = 0; row < Situations.ROWS; row++) {
            for (int pos = 0; pos < x.queueLength(row); pos++) {
                places += x.queueAt(row, pos) == tx ? 1 : 0;
            }
        }
        return places;
    }

    private static void theWaitingAreInOneQueue() {
        int waiting = 0;
        for (int number = 0; number < Situations.COUNT; number++) {
            WoundWaitLocks x = Situations.make(number);
            for (int tx = 0; tx < Situations.TXS; tx++) {
                boolean waits = Table.state(x, tx) == WoundWaitLocks.ST_WAITING;
                waiting += waits ? 1 : 0;
                due.is(Situations.name(number) + ": places of " + tx, placesInQueues(x, tx), waits ? 1 : 0);
            }
        }
        due.yes("some were waiting", waiting > 0);
    }

    /** One waits for an S lock on the first row, one for an X lock on the last; the third does not wait. */
    private static void waitRowAndModeNameTheRequest() {
        for (int policy = 0; policy <= 1; policy++) {
            WoundWaitLocks x = new WoundWaitLocks(policy, 16, 3);
            Table.script(x, 0, "w0+1 w15+1 w15+2");
            Table.script(x, 1, "r1 r1 r0");
            Table.script(x, 2, "r1 r1 w15+1");
            boolean holderIsOldest = policy == WoundWaitLocks.WOUND_WAIT;
            Table.beginAll(x, holderIsOldest ? new int[] {0, 1, 2} : new int[] {1, 2, 0});
            due.same("events", Table.events(x, 9), "2 2 2 2 2 2 2 3 3");
            int[] rows = {-1, 0, 15};
            int[] modes = {WoundWaitLocks.MODE_NONE, WoundWaitLocks.MODE_S, WoundWaitLocks.MODE_X};
            for (int tx = 0; tx < 3; tx++) {
                due.is("F_WAIT_ROW of " + tx, x.txInfo(tx, WoundWaitLocks.F_WAIT_ROW), rows[tx]);
                due.is("F_WAIT_MODE of " + tx, x.txInfo(tx, WoundWaitLocks.F_WAIT_MODE), modes[tx]);
            }
            due.same("queue of row 0", Table.queue(x, 0), "1");
            due.same("queue of row 15", Table.queue(x, 15), "2");
            due.is("step() of the holder", x.step(), WoundWaitLocks.EV_COMMIT);
            for (int tx = 0; tx < 3; tx++) {
                due.is("F_WAIT_ROW of " + tx + " later", x.txInfo(tx, WoundWaitLocks.F_WAIT_ROW), -1);
                due.is("F_WAIT_MODE of " + tx + " later", x.txInfo(tx, WoundWaitLocks.F_WAIT_MODE), 0);
            }
        }
    }

    private static void onlySuccessfulBeginsCount() {
        WoundWaitLocks x = new WoundWaitLocks(0, 1, 8);
        for (int tx = 0; tx < 8; tx++) {
            due.is("begin(8)", x.begin(8), 0);
            due.is("begin(" + tx + ")", x.begin(tx), tx + 1);
            due.is("begin(" + tx + ") again", x.begin(tx), 0);
            x.run(1);
        }
    }

    /** The number of a transaction says nothing about its age; the order of the begins does. */
    private static void smallerMeansOlder() {
        for (int older = 0; older <= 1; older++) {
            int[] events = {WoundWaitLocks.EV_WAIT, WoundWaitLocks.EV_OP};
            WoundWaitLocks x = new WoundWaitLocks(WoundWaitLocks.WOUND_WAIT, 1, 2);
            Table.script(x, 0, "w0+1");
            Table.script(x, 1, "w0+1");
            Table.beginAll(x, older, 1 - older);
            x.step();
            due.is("step() of 1 when " + older + " is older", x.step(), events[older]);
        }
    }

    private static void timestampsOutliveAborts() {
        int aborts = 0;
        for (int policy = 0; policy <= 1; policy++) {
            WoundWaitLocks x = Situations.make(4 + policy);
            String before = timestamps(x);
            for (int i = 0; i < 60; i++) {
                x.step();
                due.same("the timestamps after step " + i, timestamps(x), before);
            }
            for (int tx = 0; tx < Situations.TXS; tx++) {
                aborts += x.txInfo(tx, WoundWaitLocks.F_ABORTS);
            }
        }
        due.yes("some were aborted", aborts > 1);
    }

    private static String timestamps(WoundWaitLocks x) {
        StringBuilder text = new StringBuilder();
        for (int tx = 0; tx < Situations.TXS; tx++) {
            text.append(Table.timestamp(x, tx)).append(' ');
        }
        return text.toString();
    }

    /** A sum that has wrapped goes on as any other: read, written, undone and read once more. */
    private static void arithmeticWraps() {
        WoundWaitLocks x = new WoundWaitLocks(WoundWaitLocks.WOUND_WAIT, 3, 2);
        x.setRow(0, Integer.MIN_VALUE);
        x.addOp(0, WoundWaitLocks.OP_READ, 0, 0);
        x.addOp(0, WoundWaitLocks.OP_WRITE, 0, -1);
        x.addOp(0, WoundWaitLocks.OP_READ, 0, 0);
        Table.script(x, 1, "r1 r1 r1 w0+1");
        Table.beginAll(x, 1, 0);
        due.is("run(6)", x.run(6), 6);
        due.is("rowValue(0)", x.rowValue(0), Integer.MAX_VALUE);
        due.is("F_ACC of 0", x.txInfo(0, WoundWaitLocks.F_ACC), -1);
        due.is("step() of 0", x.step(), WoundWaitLocks.EV_COMMIT);
        due.is("step() of 1", x.step(), WoundWaitLocks.EV_OP);
        due.is("rowValue(0)", x.rowValue(0), 1);

        WoundWaitLocks y = new WoundWaitLocks(WoundWaitLocks.WOUND_WAIT, 2, 2);
        y.setRow(0, Integer.MIN_VALUE);
        y.addOp(0, WoundWaitLocks.OP_READ, 0, 0);
        y.addOp(0, WoundWaitLocks.OP_WRITE, 0, -1);
        Table.script(y, 1, "r1 r0");
        Table.beginAll(y, 1, 0);
        due.is("run(3)", y.run(3), 3);
        due.is("rowValue(0)", y.rowValue(0), Integer.MAX_VALUE);
        due.is("step() that wounds", y.step(), WoundWaitLocks.EV_OP);
        due.is("rowValue(0) when undone", y.rowValue(0), Integer.MIN_VALUE);
        due.is("F_ACC of 1", y.txInfo(1, WoundWaitLocks.F_ACC), Integer.MIN_VALUE);
    }

    /** Whatever has been called with whatever, all that has begun still runs to its end. */
    private static void anyArgumentsAreAccepted() {
        for (int number = 0; number < Situations.COUNT; number++) {
            WoundWaitLocks x = Situations.make(number);
            for (int first : Table.ANY) {
                callWithOne(x, first);
                for (int second : Table.ANY) {
                    callWithTwo(x, first, second);
                    for (int third : Table.ANY) {
                        x.addOp(first, second, third, first ^ second ^ third);
                    }
                }
            }
            for (int i = 0; i < 20; i++) {
                x.run(Integer.MAX_VALUE);
            }
            due.is("step() in the end: " + Situations.name(number), x.step(), WoundWaitLocks.EV_NONE);
            due.is("commits(): " + Situations.name(number), x.commits(), Situations.TXS);
        }
    }

    private static void callWithOne(WoundWaitLocks x, int any) {
        x.rowValue(any);
        x.queueLength(any);
        x.run(any);
        x.begin(any);
    }

    private static void callWithTwo(WoundWaitLocks x, int first, int second) {
        x.setRow(first, second);
        x.txInfo(first, second);
        x.holdMode(first, second);
        x.queueAt(first, second);
    }

    /** Each of the three calls that may be refused, at each of their refusals that a situation allows. */
    private static void refusedCallsChangeNothing() {
        Situations.unchangedBy(due, "a refused call", x -> {
            for (int row : Table.outside(Situations.ROWS)) {
                due.no("setRow(" + row + ", 5)", x.setRow(row, 5));
                due.no("addOp(5, 1, " + row + ", 5)", x.addOp(Situations.IDLE_TX, 1, row, 5));
            }
            for (int tx : Table.outside(Situations.TXS)) {
                due.is("begin(" + tx + ")", x.begin(tx), 0);
                due.no("addOp(" + tx + ", 1, 0, 5)", x.addOp(tx, 1, 0, 5));
            }
            for (int tx = 0; tx < Situations.TXS; tx++) {
                if (Table.state(x, tx) != WoundWaitLocks.ST_IDLE) {
                    due.is("begin(" + tx + ")", x.begin(tx), 0);
                    due.no("addOp(" + tx + ", 1, 0, 5)", x.addOp(tx, 1, 0, 5));
                    due.no("setRow(0, 5)", x.setRow(0, 5));
                }
            }
        });
    }

    private static void theIdleAreEditable() {
        for (int number = 0; number < Situations.COUNT; number++) {
            WoundWaitLocks x = Situations.make(number);
            for (int tx = 0; tx < Situations.TXS; tx++) {
                boolean idle = !Situations.hasBegun(number) || tx == Situations.IDLE_TX;
                String name = Situations.name(number) + ": transaction " + tx;
                int length = x.txInfo(tx, WoundWaitLocks.F_LENGTH);
                due.yes(name + " is idle", idle == (Table.state(x, tx) == WoundWaitLocks.ST_IDLE));
                if (length < 8) {
                    due.yes(name + " takes an operation", idle == x.addOp(tx, WoundWaitLocks.OP_READ, 0, 0));
                }
            }
        }
    }

    private static void theAbortedAwaitRestart() {
        int met = 0;
        for (int number = 0; number < Situations.COUNT; number++) {
            WoundWaitLocks x = Situations.make(number);
            for (int tx = 0; tx < Situations.TXS; tx++) {
                if (Table.state(x, tx) == WoundWaitLocks.ST_ABORTED) {
                    met++;
                    String name = Situations.name(number) + ": transaction " + tx;
                    for (int row = 0; row < Situations.ROWS; row++) {
                        due.is(name + " on row " + row, x.holdMode(tx, row), WoundWaitLocks.MODE_NONE);
                    }
                    due.is(name + ", its next event", nextEventOf(x, tx), WoundWaitLocks.EV_RESTART);
                }
            }
        }
        due.yes("some were aborted", met > 0);
    }

    private static int nextEventOf(WoundWaitLocks x, int tx) {
        int event = x.step();
        for (int i = 1; i < Situations.TXS && x.lastTx() != tx; i++) {
            event = x.step();
        }
        return event;
    }

    /** No one has begun, or all that have begun are done; one more begin, and there is a turn again. */
    private static void noneWhenNothingCanAct() {
        WoundWaitLocks x = new WoundWaitLocks(WoundWaitLocks.WAIT_DIE, 2, 3);
        Table.script(x, 2, "w0+1");
        for (int tx = 0; tx < 3; tx++) {
            due.is("step() before begin(" + tx + ")", x.step(), WoundWaitLocks.EV_NONE);
            x.begin(tx);
            due.no("EV_NONE after begin(" + tx + ")", x.step() == WoundWaitLocks.EV_NONE);
        }
        due.same("events", Table.events(x, 2), "5 0");
    }
}
