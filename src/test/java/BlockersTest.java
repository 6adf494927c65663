/** Promise 5, blockers: which locks and which places in a queue stand in the way of a request. */
public final class BlockersTest {
    private static final Due due = new Due("Promise 5, blockers");

    public static void main(String[] args) {
        due.holds("for m = S, u conflicts if it holds X", BlockersTest::aReadMeetsX);
        due.holds("for m = X, u conflicts if it holds S or X", BlockersTest::aWriteMeetsAnyLock);
        due.holds("every transaction u != t that holds on r", BlockersTest::ownLocksAndOtherRowsDoNotBlock);
        due.holds("together with every transaction in r's queue", BlockersTest::theQueueBlocks);
        due.holds("(the queue blocks an upgrade also)", BlockersTest::theQueueBlocksAnUpgrade);
        due.holds("The request is grantable iff B is empty.", BlockersTest::eightReadersShare);
        due.holds("Granting sets t's lock on r to m.", BlockersTest::grantsTheMode);
        due.holds("An X grant replaces an S lock that t held, which is an upgrade.", BlockersTest::upgrades);
        due.end();
    }

    /** The event of a second transaction's request, younger than the first, which has done one operation. */
    private static int secondsEvent(int policy, String first, String second) {
        WoundWaitLocks x = new WoundWaitLocks(policy, 2, 2);
        Table.script(x, 0, first);
        Table.script(x, 1, second);
        Table.beginAll(x, 0, 1);
        x.step();
        return x.step();
    }

    private static void aReadMeetsX() {
        due.is("a read of a row held S, wound-wait", secondsEvent(0, "r0", "r0"), WoundWaitLocks.EV_OP);
        due.is("a read of a row held S, wait-die", secondsEvent(1, "r0", "r0"), WoundWaitLocks.EV_OP);
        due.is("a read of a row held X, wound-wait", secondsEvent(0, "w0+1", "r0"), WoundWaitLocks.EV_WAIT);
        due.is("a read of a row held X, wait-die", secondsEvent(1, "w0+1", "r0"), WoundWaitLocks.EV_DIE);
    }

    private static void aWriteMeetsAnyLock() {
        due.is("a write of a row held S, wound-wait", secondsEvent(0, "r0", "w0+1"), WoundWaitLocks.EV_WAIT);
        due.is("a write of a row held S, wait-die", secondsEvent(1, "r0", "w0+1"), WoundWaitLocks.EV_DIE);
        due.is("a write of a row held X, wound-wait", secondsEvent(0, "w0+1", "w0+1"), WoundWaitLocks.EV_WAIT);
        due.is("a write of a row held X, wait-die", secondsEvent(1, "w0+1", "w0+1"), WoundWaitLocks.EV_DIE);
    }

    private static void ownLocksAndOtherRowsDoNotBlock() {
        for (int policy = 0; policy <= 1; policy++) {
            due.is("a read beside an X lock", secondsEvent(policy, "w0+1", "r1"), WoundWaitLocks.EV_OP);
            due.is("a write beside an X lock", secondsEvent(policy, "w1+1", "w0+1"), WoundWaitLocks.EV_OP);
            WoundWaitLocks x = new WoundWaitLocks(policy, 1, 2);
            Table.script(x, 0, "r0 w0+1 r0 w0+1");
            x.begin(0);
            due.same("events on one's own row", Table.events(x, 5), "2 2 2 2 5");
        }
    }

    /** A reader shares the row, a writer waits for it; another reader meets the writer in the queue. */
    private static void theQueueBlocks() {
        WoundWaitLocks x = new WoundWaitLocks(WoundWaitLocks.WOUND_WAIT, 1, 3);
        Table.script(x, 0, "r0 r0");
        Table.script(x, 1, "w0+1");
        Table.script(x, 2, "r0");
        Table.beginAll(x, 0, 1, 2);
        due.same("events, the reader younger than the writer", Table.events(x, 3), "2 3 3");
        due.same("queue", Table.queue(x, 0), "1 2");

        WoundWaitLocks y = new WoundWaitLocks(WoundWaitLocks.WAIT_DIE, 1, 3);
        Table.script(y, 0, "r0 r0");
        Table.script(y, 1, "w0+1");
        Table.script(y, 2, "r0");
        Table.beginAll(y, 1, 0, 2);
        due.same("events, the reader younger than the writer", Table.events(y, 3), "2 3 4");
        due.same("queue", Table.queue(y, 0), "1");

        WoundWaitLocks z = new WoundWaitLocks(WoundWaitLocks.WAIT_DIE, 1, 3);
        Table.script(z, 0, "r0 r0");
        Table.script(z, 1, "w0+1");
        Table.script(z, 2, "r0");
        Table.beginAll(z, 2, 1, 0);
        due.same("events, the reader older than the writer", Table.events(z, 3), "2 3 3");
        due.same("queue", Table.queue(z, 0), "1 2");
    }

    /** The only lock on the row is the asker's own, and yet it is blocked by the writer in the queue. */
    private static void theQueueBlocksAnUpgrade() {
        WoundWaitLocks x = new WoundWaitLocks(WoundWaitLocks.WAIT_DIE, 1, 2);
        x.setRow(0, 9);
        Table.script(x, 0, "r0 w0+1");
        Table.script(x, 1, "w0+5");
        Table.beginAll(x, 1, 0);
        due.same("events, the asker younger", Table.events(x, 3), "2 3 4");
        due.is("rowValue(0)", x.rowValue(0), 9);
        due.same("holders after the handoff", Table.holders(x, 2, 0), "0 2");
        due.same("events", Table.events(x, 2), "2 1");
        due.is("rowValue(0)", x.rowValue(0), 5);

        WoundWaitLocks y = new WoundWaitLocks(WoundWaitLocks.WOUND_WAIT, 1, 2);
        y.setRow(0, 9);
        Table.script(y, 0, "r0 w0+1");
        Table.script(y, 1, "w0+5");
        Table.beginAll(y, 0, 1);
        due.same("events, the asker older", Table.events(y, 3), "2 3 2");
        due.is("lastWounds()", y.lastWounds(), 1);
        due.same("states", Table.states(y, 2), "1 3");
        due.same("holders", Table.holders(y, 2, 0), "2 0");
        due.is("rowValue(0)", y.rowValue(0), 10);
    }

    private static void eightReadersShare() {
        for (int policy = 0; policy <= 1; policy++) {
            WoundWaitLocks x = new WoundWaitLocks(policy, 1, 8);
            for (int tx = 0; tx < 8; tx++) {
                Table.script(x, tx, "r0");
            }
            Table.beginAll(x, 3, 1, 4, 0, 5, 7, 2, 6);
            due.same("events", Table.events(x, 8), "2 2 2 2 2 2 2 2");
            due.same("holders", Table.holders(x, 8, 0), "1 1 1 1 1 1 1 1");
            due.is("queueLength(0)", x.queueLength(0), 0);
        }
    }

    private static void grantsTheMode() {
        WoundWaitLocks x = new WoundWaitLocks(0, 16, 2);
        Table.script(x, 1, "r0 w1+1 w15+1 r14");
        x.begin(1);
        x.run(4);
        for (int row = 0; row < 16; row++) {
            int shared = row == 0 || row == 14 ? WoundWaitLocks.MODE_S : WoundWaitLocks.MODE_NONE;
            int want = row == 1 || row == 15 ? WoundWaitLocks.MODE_X : shared;
            due.is("holdMode(1, " + row + ")", x.holdMode(1, row), want);
            due.is("holdMode(0, " + row + ")", x.holdMode(0, row), WoundWaitLocks.MODE_NONE);
        }
    }

    private static void upgrades() {
        for (int policy = 0; policy <= 1; policy++) {
            WoundWaitLocks x = new WoundWaitLocks(policy, 2, 3);
            Table.script(x, 0, "r0");
            Table.script(x, 1, "r0");
            Table.script(x, 2, "r1 r0 w1+3 w0+4");
            Table.beginAll(x, 0, 1, 2);
            due.same("events of reads, commits and a read", Table.events(x, 6), "2 2 2 5 5 2");
            due.same("holders of row 1 before", Table.holders(x, 3, 1), "0 0 1");
            due.is("step() of the upgrade", x.step(), WoundWaitLocks.EV_OP);
            due.same("holders of row 1 after", Table.holders(x, 3, 1), "0 0 2");
            due.same("holders of row 0", Table.holders(x, 3, 0), "0 0 1");
            due.is("step() of the other upgrade", x.step(), WoundWaitLocks.EV_OP);
            due.same("holders of row 0", Table.holders(x, 3, 0), "0 0 2");
            due.same("values", Table.values(x, 2), "4 3");
        }
    }
}
