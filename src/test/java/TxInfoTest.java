/** Promise 7: txInfo. */
public final class TxInfoTest {
    private static final Due due = new Due();

    public static void main(String[] args) {
        everyFieldInEveryState();
        answersZeroOutside();
        abortsAreCounted();
        changesNothing();
        due.end();
    }

    private static void fieldsOf(String when, WoundWaitLocks x, int tx, int... want) {
        for (int field = 0; field <= 8; field++) {
            due.is(when + ": txInfo(" + tx + ", " + field + ")", x.txInfo(tx, field), want[field]);
        }
    }

    private static WoundWaitLocks table() {
        WoundWaitLocks x = new WoundWaitLocks(WoundWaitLocks.WOUND_WAIT, 3, 4);
        x.setRow(1, 11);
        Table.script(x, 0, "r1 w2+1");
        Table.script(x, 1, "r1 w2+2 r1");
        Table.script(x, 2, "r1 r2");
        Table.script(x, 3, "r0 r0 r0 r0");
        return x;
    }

    private static void everyFieldInEveryState() {
        WoundWaitLocks x = table();
        fieldsOf("idle", x, 0, 0, 0, 0, 0, 0, 0, -1, 0, 2);
        fieldsOf("idle", x, 3, 0, 0, 0, 0, 0, 0, -1, 0, 4);
        Table.beginAll(x, 1, 0, 2);
        fieldsOf("begun", x, 0, 1, 2, 0, 0, 0, 0, -1, 0, 2);
        x.run(3);
        fieldsOf("after a read", x, 0, 1, 2, 1, 11, 0, 0, -1, 0, 2);
        due.is("step() of 0", x.step(), WoundWaitLocks.EV_OP);
        due.is("step() of 1", x.step(), WoundWaitLocks.EV_OP);
        due.is("lastWounds()", x.lastWounds(), 1);
        fieldsOf("wounded", x, 0, 3, 2, 0, 0, 1, 0, -1, 0, 2);
        fieldsOf("wounding", x, 1, 1, 1, 2, 11, 0, 0, -1, 0, 3);
        due.is("step() of 2", x.step(), WoundWaitLocks.EV_WAIT);
        fieldsOf("waiting", x, 2, 2, 3, 1, 11, 0, 0, 2, 1, 2);
        due.same("events", Table.events(x, 3), "1 2 2");
        fieldsOf("restarted, with a read", x, 0, 1, 2, 1, 11, 1, 0, -1, 0, 2);
        due.same("events", Table.events(x, 1), "5");
        fieldsOf("committed", x, 1, 4, 1, 3, 22, 0, 1, -1, 0, 3);
        fieldsOf("admitted", x, 2, 1, 3, 1, 11, 0, 0, -1, 0, 2);
        x.run(64);
        due.is("commits()", x.commits(), 3);
        fieldsOf("still idle", x, 3, 0, 0, 0, 0, 0, 0, -1, 0, 4);
    }

    private static void answersZeroOutside() {
        WoundWaitLocks x = table();
        Table.beginAll(x, 0, 1, 2, 3);
        x.run(64);
        for (int far : Table.FAR) {
            for (int field = 0; field <= 8; field++) {
                due.is("txInfo(" + far + ", " + field + ")", x.txInfo(far, field), 0);
            }
            for (int tx = 0; tx < 4; tx++) {
                due.is("txInfo(" + tx + ", " + far + ")", x.txInfo(tx, far), 0);
            }
        }
        for (int field = -1; field <= 9; field++) {
            due.is("txInfo(4, " + field + ")", x.txInfo(4, field), 0);
            due.is("txInfo(-1, " + field + ")", x.txInfo(-1, field), 0);
            due.is("txInfo(8, " + field + ")", x.txInfo(8, field), 0);
        }
        due.is("txInfo(0, -1)", x.txInfo(0, -1), 0);
        due.is("txInfo(0, 9)", x.txInfo(0, 9), 0);
    }

    private static void abortsAreCounted() {
        WoundWaitLocks x = new WoundWaitLocks(WoundWaitLocks.WAIT_DIE, 1, 2);
        Table.script(x, 0, "w0+1 w0+2 w0+3 w0+4 w0+5");
        Table.script(x, 1, "w0+1");
        Table.beginAll(x, 0, 1);
        due.same("events", Table.events(x, 10), "2 4 2 1 2 4 2 1 2 4");
        due.is("F_ABORTS", x.txInfo(1, WoundWaitLocks.F_ABORTS), 3);
        x.run(64);
        due.is("F_ABORTS after the commit", x.txInfo(1, WoundWaitLocks.F_ABORTS), 3);
        due.is("F_ABORTS of the other", x.txInfo(0, WoundWaitLocks.F_ABORTS), 0);
    }

    private static void changesNothing() {
        WoundWaitLocks asked = table();
        WoundWaitLocks left = table();
        Table.beginAll(asked, 1, 0, 2);
        Table.beginAll(left, 1, 0, 2);
        for (int i = 0; i < 20; i++) {
            for (int tx = -2; tx < 10; tx++) {
                for (int field = -2; field < 11; field++) {
                    asked.txInfo(tx, field);
                }
            }
            due.is("step() " + i, asked.step(), left.step());
        }
        due.same("the state", Table.shown(asked), Table.shown(left));
    }
}
