/** Promise 4: begin. */
public final class BeginTest {
    private static final Due due = new Due();

    public static void main(String[] args) {
        givesTimestampsInCallOrder();
        changesOnlyWhatItSays();
        refusesATransactionThatHasBegun();
        allowsAnEmptyScript();
        due.end();
    }

    private static void givesTimestampsInCallOrder() {
        WoundWaitLocks x = new WoundWaitLocks(0, 1, 8);
        int[] order = {5, 0, 7, 1, 6, 2, 4, 3};
        for (int i = 0; i < order.length; i++) {
            for (int far : Table.FAR) {
                due.is("begin(" + far + ")", x.begin(far), 0);
            }
            due.is("begin(8)", x.begin(8), 0);
            due.is("begin(" + order[i] + ")", x.begin(order[i]), i + 1);
            due.is("begin(" + order[i] + ") again", x.begin(order[i]), 0);
        }
        for (int i = 0; i < order.length; i++) {
            due.is("F_TIMESTAMP", x.txInfo(order[i], WoundWaitLocks.F_TIMESTAMP), i + 1);
        }
    }

    private static void changesOnlyWhatItSays() {
        WoundWaitLocks x = new WoundWaitLocks(0, 2, 2);
        x.setRow(0, 4);
        Table.script(x, 1, "r0 w1+1");
        WoundWaitLocks same = new WoundWaitLocks(0, 2, 2);
        same.setRow(0, 4);
        Table.script(same, 1, "r0 w1+1");
        due.is("begin(1)", x.begin(1), 1);
        due.is("F_STATE", x.txInfo(1, 0), WoundWaitLocks.ST_ACTIVE);
        due.is("F_PC", x.txInfo(1, 2), 0);
        due.is("F_ACC", x.txInfo(1, 3), 0);
        String shown = Table.shown(x);
        due.same("all but state and timestamp", shown.replace("tx1[0 1 1 ", "tx1[0 0 0 "), Table.shown(same));
        due.is("begin(2)", x.begin(2), 0);
        due.is("begin(1) again", x.begin(1), 0);
        due.same("the state after refused calls", Table.shown(x), shown);
    }

    private static void refusesATransactionThatHasBegun() {
        WoundWaitLocks x = new WoundWaitLocks(0, 1, 4);
        Table.script(x, 0, "w0+1");
        Table.script(x, 1, "w0+2");
        Table.script(x, 2, "w0+3");
        Table.beginAll(x, 1, 0, 2);
        due.same("events", Table.events(x, 3), "2 2 3");
        String before = Table.shown(x);
        due.is("begin when aborted", x.begin(0), 0);
        due.is("begin when active", x.begin(1), 0);
        due.is("begin when waiting", x.begin(2), 0);
        due.same("the state after refused calls", Table.shown(x), before);
        x.run(64);
        before = Table.shown(x);
        due.is("commits()", x.commits(), 3);
        for (int tx = 0; tx < 3; tx++) {
            due.is("begin when committed", x.begin(tx), 0);
        }
        due.same("the state after refused calls", Table.shown(x), before);
        due.is("begin(3) after the commits", x.begin(3), 4);
    }

    private static void allowsAnEmptyScript() {
        WoundWaitLocks x = new WoundWaitLocks(1, 1, 2);
        due.is("begin(0)", x.begin(0), 1);
        due.is("step()", x.step(), WoundWaitLocks.EV_COMMIT);
        due.is("F_COMMIT_RANK", x.txInfo(0, WoundWaitLocks.F_COMMIT_RANK), 1);
        due.is("step()", x.step(), WoundWaitLocks.EV_NONE);
    }
}
