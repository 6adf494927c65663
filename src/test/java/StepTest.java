/** Promise 5: who takes the turn, what an operation does, and restarts; promise 11 beside it. */
public final class StepTest {
    private static final Due due = new Due();

    public static void main(String[] args) {
        goesRoundInOrder();
        passesOverThoseThatCannotAct();
        answersNoneAndKeepsTheCursor();
        performsReadsAndWrites();
        sumsWrap();
        readsItsOwnWriteUnderX();
        sharesReadsAndUpgradesAlone();
        commitKeepsWhatWasDone();
        restartsWithTheTimestampKept();
        due.end();
    }

    private static void goesRoundInOrder() {
        WoundWaitLocks x = new WoundWaitLocks(0, 4, 4);
        for (int tx = 0; tx < 4; tx++) {
            Table.script(x, tx, "w" + tx + "+1 w" + tx + "+2");
        }
        Table.beginAll(x, 3, 1, 0, 2);
        for (int i = 0; i < 12; i++) {
            due.is("step() " + i, x.step(), i < 8 ? WoundWaitLocks.EV_OP : WoundWaitLocks.EV_COMMIT);
            due.is("lastTx() after step " + i, x.lastTx(), i % 4);
        }
        due.is("step() at the end", x.step(), WoundWaitLocks.EV_NONE);
    }

    private static void passesOverThoseThatCannotAct() {
        WoundWaitLocks x = new WoundWaitLocks(0, 2, 5);
        Table.script(x, 1, "w0+1 w0+2 w0+3");
        Table.script(x, 2, "w0+4");
        Table.script(x, 4, "r1");
        Table.beginAll(x, 1, 2, 4);
        due.same("events", Table.events(x, 5), "2 3 2 2 5");
        due.is("lastTx()", x.lastTx(), 4);
        due.is("F_STATE of the one waiting", x.txInfo(2, 0), WoundWaitLocks.ST_WAITING);
        x.step();
        due.is("lastTx() with 0, 3 idle, 2 waiting, 4 committed", x.lastTx(), 1);
        x.step();
        due.is("lastTx() when 1 alone can act", x.lastTx(), 1);
        due.is("F_STATE of 1", x.txInfo(1, 0), WoundWaitLocks.ST_COMMITTED);
        due.is("F_STATE of an idle one", x.txInfo(0, 0), WoundWaitLocks.ST_IDLE);
    }

    private static void answersNoneAndKeepsTheCursor() {
        WoundWaitLocks x = new WoundWaitLocks(0, 2, 4);
        String fresh = Table.shown(x);
        due.same("events of a fresh object", Table.events(x, 3), "0 0 0");
        due.same("its state", Table.shown(x), fresh);
        Table.script(x, 1, "w0+9");
        x.begin(1);
        due.same("events", Table.events(x, 2), "2 5");
        due.is("lastTx()", x.lastTx(), 1);
        String before = Table.shown(x);
        due.same("events when all is done", Table.events(x, 2), "0 0");
        due.is("lastTx() after EV_NONE", x.lastTx(), -1);
        due.is("lastWounds() after EV_NONE", x.lastWounds(), 0);
        due.same("all but lastTx", Table.shown(x), before.substring(0, before.length() - 5) + "-1 0 1");
        Table.beginAll(x, 0, 3);
        x.step();
        due.is("the turn after the one of the kept cursor", x.lastTx(), 3);
        x.step();
        due.is("the turn after that", x.lastTx(), 0);
    }

    private static void performsReadsAndWrites() {
        WoundWaitLocks x = new WoundWaitLocks(1, 3, 2);
        x.setRow(0, 10);
        x.setRow(1, -3);
        Table.script(x, 0, "r0 r1 r0 w2-5 r2 w1+0");
        x.begin(0);
        int[] acc = {10, 7, 17, 17, 29, 29};
        int[] row2 = {0, 0, 0, 12, 12, 12};
        for (int i = 0; i < 6; i++) {
            due.is("step() " + i, x.step(), WoundWaitLocks.EV_OP);
            due.is("F_PC after " + i, x.txInfo(0, WoundWaitLocks.F_PC), i + 1);
            due.is("F_ACC after " + i, x.txInfo(0, WoundWaitLocks.F_ACC), acc[i]);
            due.is("rowValue(2) after " + i, x.rowValue(2), row2[i]);
        }
        due.is("rowValue(0)", x.rowValue(0), 10);
        due.is("rowValue(1)", x.rowValue(1), 29);
        due.is("step()", x.step(), WoundWaitLocks.EV_COMMIT);
    }

    private static void sumsWrap() {
        WoundWaitLocks x = new WoundWaitLocks(0, 3, 2);
        x.setRow(0, Integer.MAX_VALUE);
        x.addOp(0, 1, 0, 0);
        x.addOp(0, 2, 1, 1);
        x.addOp(0, 1, 0, 0);
        x.addOp(0, 2, 2, Integer.MIN_VALUE);
        x.begin(0);
        x.run(4);
        due.is("rowValue(1)", x.rowValue(1), Integer.MIN_VALUE);
        due.is("F_ACC", x.txInfo(0, WoundWaitLocks.F_ACC), -2);
        due.is("rowValue(2)", x.rowValue(2), Integer.MAX_VALUE - 1);
    }

    private static void readsItsOwnWriteUnderX() {
        for (int policy = 0; policy <= 1; policy++) {
            WoundWaitLocks x = new WoundWaitLocks(policy, 1, 2);
            x.setRow(0, 50);
            Table.script(x, 0, "w0+6 r0 w0+1");
            x.begin(0);
            due.same("events", Table.events(x, 2), "2 2");
            due.is("F_ACC", x.txInfo(0, WoundWaitLocks.F_ACC), 6);
            due.is("holdMode is not lowered", x.holdMode(0, 0), WoundWaitLocks.MODE_X);
            x.step();
            due.is("rowValue(0)", x.rowValue(0), 7);
        }
    }

    private static void sharesReadsAndUpgradesAlone() {
        for (int policy = 0; policy <= 1; policy++) {
            WoundWaitLocks x = new WoundWaitLocks(policy, 2, 3);
            Table.script(x, 0, "r0");
            Table.script(x, 1, "r0");
            Table.script(x, 2, "r1 r0 w1+3");
            Table.beginAll(x, 0, 1, 2);
            due.same("events of reads", Table.events(x, 3), "2 2 2");
            due.same("events of commits, and a read after them", Table.events(x, 3), "5 5 2");
            due.is("holdMode(2, 1) before", x.holdMode(2, 1), WoundWaitLocks.MODE_S);
            due.is("step() of the upgrade", x.step(), WoundWaitLocks.EV_OP);
            due.is("holdMode(2, 1) after", x.holdMode(2, 1), WoundWaitLocks.MODE_X);
            due.is("holdMode(2, 0)", x.holdMode(2, 0), WoundWaitLocks.MODE_S);
        }
    }

    private static void commitKeepsWhatWasDone() {
        WoundWaitLocks x = new WoundWaitLocks(0, 3, 3);
        x.setRow(2, 4);
        Table.script(x, 1, "r2 w0+1 w1+2");
        x.begin(1);
        x.run(4);
        due.is("F_STATE", x.txInfo(1, WoundWaitLocks.F_STATE), WoundWaitLocks.ST_COMMITTED);
        due.is("F_TIMESTAMP", x.txInfo(1, WoundWaitLocks.F_TIMESTAMP), 1);
        due.is("F_PC", x.txInfo(1, WoundWaitLocks.F_PC), 3);
        due.is("F_ACC", x.txInfo(1, WoundWaitLocks.F_ACC), 4);
        due.is("F_COMMIT_RANK", x.txInfo(1, WoundWaitLocks.F_COMMIT_RANK), 1);
        for (int row = 0; row < 3; row++) {
            due.is("holdMode(1, " + row + ")", x.holdMode(1, row), WoundWaitLocks.MODE_NONE);
            due.is("rowValue(" + row + ")", x.rowValue(row), row == 2 ? 4 : 5 + row);
        }
    }

    private static void restartsWithTheTimestampKept() {
        WoundWaitLocks x = new WoundWaitLocks(1, 2, 2);
        x.setRow(1, 8);
        Table.script(x, 0, "w0+1 w0+2");
        Table.script(x, 1, "r1 r0");
        Table.beginAll(x, 0, 1);
        due.same("events", Table.events(x, 4), "2 2 2 4");
        due.is("F_STATE", x.txInfo(1, WoundWaitLocks.F_STATE), WoundWaitLocks.ST_ABORTED);
        due.is("F_PC when aborted", x.txInfo(1, WoundWaitLocks.F_PC), 0);
        due.is("F_ACC when aborted", x.txInfo(1, WoundWaitLocks.F_ACC), 0);
        due.is("F_TIMESTAMP when aborted", x.txInfo(1, WoundWaitLocks.F_TIMESTAMP), 2);
        due.is("holdMode(1, 1) when aborted", x.holdMode(1, 1), WoundWaitLocks.MODE_NONE);
        due.same("events", Table.events(x, 2), "5 1");
        due.is("F_STATE", x.txInfo(1, WoundWaitLocks.F_STATE), WoundWaitLocks.ST_ACTIVE);
        due.is("F_PC after the restart", x.txInfo(1, WoundWaitLocks.F_PC), 0);
        due.is("F_ACC after the restart", x.txInfo(1, WoundWaitLocks.F_ACC), 0);
        due.is("F_TIMESTAMP after the restart", x.txInfo(1, WoundWaitLocks.F_TIMESTAMP), 2);
        due.is("F_ABORTS after the restart", x.txInfo(1, WoundWaitLocks.F_ABORTS), 1);
        due.is("holdMode(1, 1) after the restart", x.holdMode(1, 1), WoundWaitLocks.MODE_NONE);
        due.same("events", Table.events(x, 3), "2 2 5");
        due.is("F_ACC", x.txInfo(1, WoundWaitLocks.F_ACC), 10);
    }
}
