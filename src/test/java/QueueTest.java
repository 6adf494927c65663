/** Promise 10: queueLength and queueAt. */
public final class QueueTest {
    private static final Due due = new Due();

    public static void main(String[] args) {
        joinersGoToTheTail();
        fullQueueOnTheLastRow();
        anAbortedWaiterLeavesTheMiddle();
        answersOutside();
        due.end();
    }

    /** The joiners begin one by one, so that they join in another order than that of their numbers. */
    private static void joinersGoToTheTail() {
        WoundWaitLocks x = new WoundWaitLocks(WoundWaitLocks.WOUND_WAIT, 2, 5);
        Table.script(x, 3, "w1+1 w1+1 w1+1 w1+1 w1+1 w1+1");
        x.begin(3);
        x.step();
        due.same("queue at first", Table.queue(x, 1), "");
        int[] joiners = {4, 0, 2, 1};
        String[] queues = {"4", "4 0", "4 0 2", "4 0 2 1"};
        for (int i = 0; i < joiners.length; i++) {
            Table.script(x, joiners[i], "w1+1");
            x.begin(joiners[i]);
            due.is("run(2) of the holder and the joiner", x.run(2), 2);
            due.same("queue", Table.queue(x, 1), queues[i]);
            due.is("queueLength(1)", x.queueLength(1), i + 1);
            due.is("queueLength(0)", x.queueLength(0), 0);
        }
    }

    /** Under wait-die the older ones line up behind the youngest. */
    private static void fullQueueOnTheLastRow() {
        WoundWaitLocks x = new WoundWaitLocks(WoundWaitLocks.WAIT_DIE, 16, 8);
        for (int tx = 0; tx < 8; tx++) {
            Table.script(x, tx, "w15+1");
        }
        Table.beginAll(x, 7, 6, 5, 4, 3, 2, 1, 0);
        for (int i = 0; i < 8; i++) {
            due.is("queueLength(15)", x.queueLength(15), Math.max(0, i - 1));
            x.step();
        }
        due.same("queue", Table.queue(x, 15), "1 2 3 4 5 6 7");
        due.is("queueAt(15, 6)", x.queueAt(15, 6), 7);
        due.is("queueAt(15, 7)", x.queueAt(15, 7), -1);
        due.is("queueLength(14)", x.queueLength(14), 0);
        String[] queues = {"2 3 4 5 6 7", "3 4 5 6 7", "4 5 6 7", "5 6 7", "6 7", "7", ""};
        for (String queue : queues) {
            due.is("step() of the holder", x.step(), WoundWaitLocks.EV_COMMIT);
            due.same("queue", Table.queue(x, 15), queue);
            due.is("queueLength(15)", x.queueLength(15), queue.isEmpty() ? 0 : queue.split(" ").length);
            due.is("step() of the next", x.step(), WoundWaitLocks.EV_OP);
        }
    }

    /** 1, 2, 3 wait for row 0, held by 0; 4 wounds 2 for the sake of row 1. */
    private static void anAbortedWaiterLeavesTheMiddle() {
        WoundWaitLocks x = new WoundWaitLocks(WoundWaitLocks.WOUND_WAIT, 3, 5);
        Table.script(x, 0, "w0+1 w0+2 w0+3 w0+4");
        Table.script(x, 1, "r2 w0+1");
        Table.script(x, 2, "w1+1 w0+1");
        Table.script(x, 3, "r2 w0+1");
        Table.script(x, 4, "r2 r2 r1");
        Table.beginAll(x, 0, 4, 1, 2, 3);
        due.same("events", Table.events(x, 10), "2 2 2 2 2 2 3 3 3 2");
        due.same("queue", Table.queue(x, 0), "1 2 3");
        due.same("events", Table.events(x, 2), "2 2");
        due.is("lastWounds()", x.lastWounds(), 1);
        due.same("queue", Table.queue(x, 0), "1 3");
        due.is("queueLength(0)", x.queueLength(0), 2);
        due.is("queueAt(0, 2)", x.queueAt(0, 2), -1);
    }

    private static void answersOutside() {
        WoundWaitLocks x = new WoundWaitLocks(WoundWaitLocks.WOUND_WAIT, 3, 4);
        for (int tx = 0; tx < 4; tx++) {
            Table.script(x, tx, "w0+1");
        }
        Table.beginAll(x, 0, 1, 2, 3);
        x.run(4);
        String before = Table.shown(x);
        due.same("queue", Table.queue(x, 0), "1 2 3");
        for (int far : Table.FAR) {
            due.is("queueLength(" + far + ")", x.queueLength(far), 0);
            due.is("queueAt(0, " + far + ")", x.queueAt(0, far), -1);
            due.is("queueAt(" + far + ", 0)", x.queueAt(far, 0), -1);
            due.is("queueAt(" + far + ", " + far + ")", x.queueAt(far, far), -1);
        }
        int[][] outside = {{0, -1}, {0, 3}, {0, 4}, {0, 8}, {1, 0}, {1, -8}, {2, 0}, {3, 0}, {-1, 8}, {-1, 0}};
        for (int[] cell : outside) {
            due.is("queueAt(" + cell[0] + ", " + cell[1] + ")", x.queueAt(cell[0], cell[1]), -1);
        }
        due.is("queueLength(1)", x.queueLength(1), 0);
        due.is("queueLength(3)", x.queueLength(3), 0);
        due.is("queueLength(-1)", x.queueLength(-1), 0);
        due.same("the state", Table.shown(x), before);
    }
}
