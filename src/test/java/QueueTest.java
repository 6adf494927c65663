/** Promise 10: queueLength and queueAt. */
public final class QueueTest {
    private static final Due due = new Due("Promise 10");

    public static void main(String[] args) {
        due.holds("answers the number of transactions in row's queue", QueueTest::countsFromNoneToSeven);
        due.holds("If row is outside 0..R-1, it answers 0.", QueueTest::lengthIsZeroOfNoRow);
        due.holds("answers the transaction at position pos of row's queue, where 0 is the head",
            QueueTest::answersEachPosition);
        due.holds("It answers -1 if row is outside 0..R-1", QueueTest::answersMinusOneOfNoRow);
        due.holds("or pos is outside 0..queueLength(row)-1.", QueueTest::answersMinusOneOfNoPosition);
        due.holds("joiners go to the tail", QueueTest::joinersGoToTheTail);
        due.holds("HANDOFF removes only the head", QueueTest::handoffTakesTheHead);
        due.holds("an aborted waiter leaves, and the others keep their order", QueueTest::anAbortedWaiterLeaves);
        due.holds("Neither method changes anything.", QueueTest::changesNothing);
        due.end();
    }

    /** All write the same row; under wait-die the older ones line up behind the youngest. */
    private static WoundWaitLocks writersOf(int row, int rows, int txs) {
        WoundWaitLocks x = new WoundWaitLocks(WoundWaitLocks.WAIT_DIE, rows, txs);
        for (int tx = txs - 1; tx >= 0; tx--) {
            Table.script(x, tx, "w" + row + "+1");
            x.begin(tx);
        }
        return x;
    }

    private static void countsFromNoneToSeven() {
        for (int row = 0; row < 16; row++) {
            WoundWaitLocks x = writersOf(row, 16, 8);
            for (int i = 0; i < 8; i++) {
                due.is("queueLength(" + row + ")", x.queueLength(row), Math.max(0, i - 1));
                x.step();
            }
            for (int other = 0; other < 16; other++) {
                due.is("queueLength(" + other + ")", x.queueLength(other), other == row ? 7 : 0);
            }
        }
    }

    private static void lengthIsZeroOfNoRow() {
        for (int rows = 1; rows <= 16; rows++) {
            WoundWaitLocks x = writersOf(rows - 1, rows, 8);
            x.run(8);
            due.is("queueLength of the last row", x.queueLength(rows - 1), 7);
            for (int row : Table.outside(rows)) {
                due.is("queueLength(" + row + ") of " + rows, x.queueLength(row), 0);
            }
        }
    }

    private static void answersEachPosition() {
        for (int row = 0; row < 16; row++) {
            WoundWaitLocks x = writersOf(row, 16, 8);
            x.run(8);
            for (int pos = 0; pos < 7; pos++) {
                due.is("queueAt(" + row + ", " + pos + ")", x.queueAt(row, pos), pos + 1);
            }
        }
    }

    private static void answersMinusOneOfNoRow() {
        for (int rows = 1; rows <= 16; rows++) {
            WoundWaitLocks x = writersOf(rows - 1, rows, 8);
            x.run(8);
            for (int row : Table.outside(rows)) {
                for (int pos = -17; pos <= 17; pos++) {
                    due.is("queueAt(" + row + ", " + pos + ") of " + rows, x.queueAt(row, pos), -1);
                }
            }
        }
    }

    /** The queue is empty, then as long as it can be, then shorter and shorter; its neighbours are empty. */
    private static void answersMinusOneOfNoPosition() {
        WoundWaitLocks x = writersOf(1, 3, 8);
        for (int i = 0; i < 30; i++) {
            int length = x.queueLength(1);
            for (int pos : Table.outside(length)) {
                due.is("queueAt(1, " + pos + ") of " + length, x.queueAt(1, pos), -1);
            }
            for (int pos = -20; pos <= 20; pos++) {
                due.is("queueAt(0, " + pos + ")", x.queueAt(0, pos), -1);
                due.is("queueAt(2, " + pos + ")", x.queueAt(2, pos), -1);
            }
            x.step();
        }
        due.is("commits()", x.commits(), 8);
    }

    /** The joiners begin one by one, so that they join in another order than that of their numbers. */
    private static void joinersGoToTheTail() {
        WoundWaitLocks x = new WoundWaitLocks(WoundWaitLocks.WOUND_WAIT, 2, 5);
        Table.script(x, 3, "w1+1 w1+1 w1+1 w1+1 w1+1 w1+1");
        x.begin(3);
        x.step();
        due.same("queue at first", Table.queue(x, 1), "");
        int[] joiners = {4, 0, 2, 1};
        String[] queues = {"4", "4 0", "4 0 2", "4 0 2 1"};
        for (int i = 0; i < joiners.length; i++) {
            Table.script(x, joiners[i], "w1+1");
            x.begin(joiners[i]);
            due.is("run(2) of the holder and the joiner", x.run(2), 2);
            due.same("queue", Table.queue(x, 1), queues[i]);
        }
    }

    private static void handoffTakesTheHead() {
        WoundWaitLocks x = writersOf(15, 16, 8);
        x.run(8);
        due.same("queue", Table.queue(x, 15), "1 2 3 4 5 6 7");
        String[] queues = {"2 3 4 5 6 7", "3 4 5 6 7", "4 5 6 7", "5 6 7", "6 7", "7", ""};
        for (int i = 0; i < queues.length; i++) {
            due.is("step() of the holder", x.step(), WoundWaitLocks.EV_COMMIT);
            due.same("queue", Table.queue(x, 15), queues[i]);
            due.is("queueLength(15)", x.queueLength(15), 6 - i);
            due.is("holdMode of the next", x.holdMode(i + 1, 15), WoundWaitLocks.MODE_X);
            due.is("step() of the next", x.step(), WoundWaitLocks.EV_OP);
        }
    }

    /** 1, 2, 3 wait for row 0, held by 0; 4 wounds one of them for the sake of row 1. */
    private static void anAbortedWaiterLeaves() {
        String[] left = {"", "2 3", "1 3", "1 2"};
        for (int victim = 1; victim <= 3; victim++) {
            WoundWaitLocks x = new WoundWaitLocks(WoundWaitLocks.WOUND_WAIT, 3, 5);
            Table.script(x, 0, "w0+1 w0+2 w0+3 w0+4");
            for (int tx = 1; tx <= 3; tx++) {
                Table.script(x, tx, (tx == victim ? "w1+1" : "r2") + " w0+1");
            }
            Table.script(x, 4, "r2 r2 r1");
            Table.beginAll(x, 0, 4, 1, 2, 3);
            x.run(11);
            due.same("queue before", Table.queue(x, 0), "1 2 3");
            x.step();
            due.is("lastWounds()", x.lastWounds(), 1);
            due.same("queue without " + victim, Table.queue(x, 0), left[victim]);
            due.is("queueLength(0)", x.queueLength(0), 2);
            due.is("queueAt(0, 2)", x.queueAt(0, 2), -1);
        }
    }

    private static void changesNothing() {
        Situations.unchangedBy(due, "queueLength and queueAt", x -> {
            for (int row : Table.ANY) {
                x.queueLength(row);
                for (int pos : Table.ANY) {
                    x.queueAt(row, pos);
                }
            }
        });
    }
}
