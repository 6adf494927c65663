import java.util.function.Consumer;

/**
 * Every run of three transactions with scripts of one or two operations on two rows, begun together in every
 * order, under both policies. What is asked needs no second reading of the turns: that the waiting order holds,
 * and that the locks leave what the transactions, one after another, would have left.
 */
public final class SmallTablesTest {
    private static final int TXS = 3;
    private static final int[] FIRST_VALUES = {100, 1000};
    private static final int[][] ORDERS = {{0, 1, 2}, {0, 2, 1}, {1, 0, 2}, {1, 2, 0}, {2, 0, 1}, {2, 1, 0}};
    /** Far more steps than any of the runs needs, so that one that goes on for ever is told as wrong. */
    private static final int MOST_STEPS = 100;
    private static final String[] OPS = {"r0", "r1", "w0+1", "w1+10"};
    private static final Due due = new Due("Every small table");

    public static void main(String[] args) {
        due.holds("After every call, it holds for every ST_WAITING transaction w, with wait row r and wait mode m.",
            () -> everyRun(SmallTablesTest::waitingIsInOrder));
        due.holds("WoundWaitLocks is a row lock manager for a small table of int rows, run by scripted transactions.",
            () -> everyRun(SmallTablesTest::endsAsIfOneAfterAnother));
        due.end();
    }

    /** One table, all set up: its scripts by transaction, its policy, and the order of its begins. */
    private static final class Run {
        private final int policy;
        private final String[] scripts;
        private final int[] order;
        private final WoundWaitLocks x;

        Run(int policy, String[] scripts, int[] order) {
            this.policy = policy;
            this.scripts = scripts;
            this.order = order;
            x = new WoundWaitLocks(policy, FIRST_VALUES.length, TXS);
            for (int row = 0; row < FIRST_VALUES.length; row++) {
                x.setRow(row, FIRST_VALUES[row]);
            }
            for (int tx = 0; tx < TXS; tx++) {
                Table.script(x, tx, scripts[tx]);
            }
            Table.beginAll(x, order);
        }

        String name() {
            return "policy " + policy + ", scripts " + String.join("; ", scripts) + ", begun in the order "
                + order[0] + order[1] + order[2] + ": ";
        }
    }

    private static String[] scripts() {
        String[] scripts = new String[OPS.length * (OPS.length + 1)];
        int made = 0;
        for (String first : OPS) {
            scripts[made++] = first;
            for (String second : OPS) {
                scripts[made++] = first + " " + second;
            }
        }
        return scripts;
    }

    /** The first run with a wrong answer is the last one made, for the others would tell the same again. */
    private static void everyRun(Consumer<Run> asked) {
        int before = due.wrong();
        String[] scripts = scripts();
        int sets = scripts.length * scripts.length * scripts.length;
        for (int set = 0; set < sets; set++) {
            String[] three = {
                scripts[set % scripts.length], scripts[set / scripts.length % scripts.length],
                scripts[set / scripts.length / scripts.length]
            };
            for (int[] order : ORDERS) {
                for (int policy = 0; policy <= 1 && due.wrong() == before; policy++) {
                    asked.accept(new Run(policy, three, order));
                }
            }
        }
    }

    private static void waitingIsInOrder(Run run) {
        String name = run.name();
        int steps = 0;
        while (steps < MOST_STEPS && run.x.step() != WoundWaitLocks.EV_NONE) {
            WaitingOrder.ask(due, name, run.x, run.policy, TXS);
            steps++;
        }
        due.yes(name + "comes to an end", steps < MOST_STEPS);
        due.same(name + "states in the end", Table.states(run.x, TXS), "4 4 4");
    }

    /** The locks are kept until the commit, so that the order of the commits is the order to compare with. */
    private static void endsAsIfOneAfterAnother(Run run) {
        run.x.run(64);
        run.x.run(64);
        int[] value = FIRST_VALUES.clone();
        for (int rank = 1; rank <= TXS; rank++) {
            for (int tx = 0; tx < TXS; tx++) {
                if (run.x.txInfo(tx, WoundWaitLocks.F_COMMIT_RANK) == rank) {
                    int acc = runAlone(run.scripts[tx], value);
                    due.is(run.name() + "F_ACC of " + tx, run.x.txInfo(tx, WoundWaitLocks.F_ACC), acc);
                }
            }
        }
        due.is(run.name() + "commits()", run.x.commits(), TXS);
        due.same(run.name() + "values", Table.values(run.x, 2), value[0] + " " + value[1]);
    }

    private static int runAlone(String script, int[] value) {
        int acc = 0;
        for (String op : script.split(" ")) {
            int row = op.charAt(1) - '0';
            if (op.charAt(0) == 'r') {
                acc += value[row];
            } else {
                value[row] = acc + Integer.parseInt(op.substring(2));
            }
        }
        return acc;
    }
}
