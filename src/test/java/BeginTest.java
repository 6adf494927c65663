/** Promise 4: begin. */
public final class BeginTest {
    private static final Due due = new Due("Promise 4");

    public static void main(String[] args) {
        due.holds("tx is in 0..T-1", BeginTest::takesTheTransactionsAlone);
        due.holds("tx is ST_IDLE", BeginTest::takesTheIdleAlone);
        due.holds("If either fails, the call is refused: it answers 0 and changes nothing.",
            BeginTest::refusalChangesNothing);
        due.holds("tx gets the counter's current value as its timestamp, and the counter grows by 1",
            BeginTest::givesTheCounter);
        due.holds("tx's state becomes ST_ACTIVE, with pc 0 and acc 0", BeginTest::makesActiveAndNothingElse);
        due.holds("the call answers that timestamp, which is at least 1", BeginTest::answersTheTimestamp);
        due.holds("An empty script is allowed.", BeginTest::takesAnEmptyScript);
        due.holds("Successive successful begins give 1, 2, 3, ... in call order.", BeginTest::countsInCallOrder);
        due.holds("A transaction can be begun at most once, so the timestamp stays fixed from then on.",
            BeginTest::beginsAtMostOnce);
        due.holds("After the first successful begin, setRow is refused forever.", BeginTest::endsSetRow);
        due.end();
    }

    private static void takesTheTransactionsAlone() {
        for (int txs = 2; txs <= 8; txs++) {
            WoundWaitLocks x = new WoundWaitLocks(0, 1, txs);
            for (int tx : Table.outside(txs)) {
                due.is("begin(" + tx + ") of " + txs, x.begin(tx), 0);
            }
            for (int tx = 0; tx < txs; tx++) {
                due.is("begin(" + tx + ") of " + txs, x.begin(tx), tx + 1);
            }
        }
    }

    /** In every situation the idle ones begin and the others do not, and each other state is met. */
    private static void takesTheIdleAlone() {
        boolean[] met = new boolean[5];
        for (int number = 0; number < Situations.COUNT; number++) {
            for (int tx = 0; tx < Situations.TXS; tx++) {
                WoundWaitLocks x = Situations.make(number);
                int state = Table.state(x, tx);
                met[state] = true;
                int next = Situations.hasBegun(number) ? 6 : 1;
                int want = state == WoundWaitLocks.ST_IDLE ? next : 0;
                due.is(Situations.name(number) + ": begin(" + tx + ")", x.begin(tx), want);
            }
        }
        for (int state = 0; state < 5; state++) {
            due.yes("state " + state + " is met", met[state]);
        }
    }

    private static void refusalChangesNothing() {
        Situations.unchangedBy(due, "a refused begin", x -> {
            for (int tx : Table.outside(Situations.TXS)) {
                due.is("begin(" + tx + ")", x.begin(tx), 0);
            }
            for (int tx = 0; tx < Situations.TXS; tx++) {
                if (Table.state(x, tx) != WoundWaitLocks.ST_IDLE) {
                    due.is("begin(" + tx + ")", x.begin(tx), 0);
                }
            }
        });
    }

    private static void givesTheCounter() {
        WoundWaitLocks x = new WoundWaitLocks(0, 1, 8);
        for (int tx = 7; tx >= 0; tx--) {
            due.is("F_TIMESTAMP of " + tx + " before", Table.timestamp(x, tx), 0);
            x.begin(tx);
            x.begin(tx);
            x.begin(8);
            due.is("F_TIMESTAMP of " + tx, Table.timestamp(x, tx), 8 - tx);
        }
    }

    /** The only things shown that differ are the state and the timestamp of the one begun. */
    private static void makesActiveAndNothingElse() {
        for (int number = 0; number < Situations.COUNT; number++) {
            WoundWaitLocks x = Situations.make(number);
            String before = Table.shown(x);
            int timestamp = x.begin(Situations.IDLE_TX);
            due.is("F_STATE", Table.state(x, Situations.IDLE_TX), WoundWaitLocks.ST_ACTIVE);
            due.is("F_PC", x.txInfo(Situations.IDLE_TX, WoundWaitLocks.F_PC), 0);
            due.is("F_ACC", x.txInfo(Situations.IDLE_TX, WoundWaitLocks.F_ACC), 0);
            String idle = "tx" + Situations.IDLE_TX + "[0 0 0 ";
            String begun = "tx" + Situations.IDLE_TX + "[0 1 " + timestamp + " ";
            due.same(Situations.name(number), Table.shown(x), before.replace(idle, begun));
        }
    }

    private static void answersTheTimestamp() {
        for (int txs = 2; txs <= 8; txs++) {
            WoundWaitLocks x = new WoundWaitLocks(1, 1, txs);
            for (int tx = 0; tx < txs; tx++) {
                int answer = x.begin(tx);
                due.is("begin(" + tx + ")", answer, Table.timestamp(x, tx));
                due.yes("it is at least 1", answer >= 1);
                x.step();
            }
        }
    }

    private static void takesAnEmptyScript() {
        for (int tx = 0; tx < 8; tx++) {
            WoundWaitLocks x = new WoundWaitLocks(tx % 2, 1, 8);
            due.is("begin(" + tx + ")", x.begin(tx), 1);
            due.is("F_LENGTH", x.txInfo(tx, WoundWaitLocks.F_LENGTH), 0);
            due.is("step()", x.step(), WoundWaitLocks.EV_COMMIT);
            due.is("F_COMMIT_RANK", x.txInfo(tx, WoundWaitLocks.F_COMMIT_RANK), 1);
            due.is("step()", x.step(), WoundWaitLocks.EV_NONE);
        }
    }

    private static void countsInCallOrder() {
        WoundWaitLocks x = new WoundWaitLocks(0, 1, 8);
        int[] order = {5, 0, 7, 1, 6, 2, 4, 3};
        for (int i = 0; i < order.length; i++) {
            due.is("begin(" + order[i] + ")", x.begin(order[i]), i + 1);
            x.run(i);
        }
        for (int i = 0; i < order.length; i++) {
            due.is("F_TIMESTAMP of " + order[i], Table.timestamp(x, order[i]), i + 1);
        }
    }

    /** One is begun again when active, aborted, waiting and committed. */
    private static void beginsAtMostOnce() {
        WoundWaitLocks x = new WoundWaitLocks(WoundWaitLocks.WOUND_WAIT, 1, 4);
        Table.script(x, 0, "w0+1");
        Table.script(x, 1, "w0+2");
        Table.script(x, 2, "w0+3");
        Table.beginAll(x, 1, 0, 2);
        due.same("states when begun", Table.states(x, 4), "1 1 1 0");
        beginAgain(x);
        due.same("events", Table.events(x, 3), "2 2 3");
        due.same("states after 3 steps", Table.states(x, 4), "3 1 2 0");
        beginAgain(x);
        x.run(64);
        due.same("states in the end", Table.states(x, 4), "4 4 4 0");
        beginAgain(x);
        due.is("begin(3)", x.begin(3), 4);
    }

    private static void beginAgain(WoundWaitLocks x) {
        int[] timestamps = {2, 1, 3};
        for (int tx = 0; tx < 3; tx++) {
            due.is("begin(" + tx + ") again", x.begin(tx), 0);
            due.is("F_TIMESTAMP of " + tx, Table.timestamp(x, tx), timestamps[tx]);
        }
    }

    private static void endsSetRow() {
        WoundWaitLocks x = new WoundWaitLocks(0, 2, 2);
        due.yes("setRow before", x.setRow(0, 1));
        due.is("begin(2)", x.begin(2), 0);
        due.yes("setRow after a refused begin", x.setRow(0, 2));
        due.is("begin(1)", x.begin(1), 1);
        due.no("setRow after the first begin", x.setRow(0, 3));
        due.is("begin(0)", x.begin(0), 2);
        due.no("setRow after the second begin", x.setRow(0, 3));
        x.run(64);
        due.no("setRow when all is done", x.setRow(0, 3));
        due.is("rowValue(0)", x.rowValue(0), 2);
    }
}
