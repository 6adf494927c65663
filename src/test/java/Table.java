import java.util.Arrays;
import java.util.LinkedHashMap;
import java.util.Map;
import java.util.stream.IntStream;

/** What the tests have in common: scripts written shortly, and all that an object shows. */
final class Table {
    /** Numbers of every kind that a call may be handed: within the ranges, at their edges, and far outside. */
    static final int[] ANY = {
        Integer.MIN_VALUE, Integer.MIN_VALUE + 1, -(1 << 16), -129, -65, -17, -9, -8, -2, -1, 0, 1, 2, 3, 4, 5, 6,
        7, 8, 9, 15, 16, 17, 63, 64, 65, 127, 128, 129, 1 << 16, 1 << 28, 1 << 29, Integer.MAX_VALUE - 1,
        Integer.MAX_VALUE
    };

    private Table() {
    }

    /** Numbers outside 0..bound-1: all the near ones, so that no cell of a neighbour is taken for one's own. */
    static int[] outside(int bound) {
        IntStream near = IntStream.rangeClosed(-40, bound + 40);
        return IntStream.concat(near, Arrays.stream(ANY)).filter(i -> i < 0 || i >= bound).toArray();
    }

    /** Adds operations to tx, such as "r0 w3+5 w3-5": reads of a row, and writes of acc and a number. */
    static void script(WoundWaitLocks x, int tx, String ops) {
        for (String op : ops.split(" ")) {
            String rest = op.substring(1);
            boolean added;
            if (op.charAt(0) == 'r') {
                added = x.addOp(tx, WoundWaitLocks.OP_READ, Integer.parseInt(rest), 0);
            } else {
                int sign = Math.max(rest.indexOf('+'), rest.indexOf('-'));
                int row = Integer.parseInt(rest.substring(0, sign));
                int arg = Integer.parseInt(rest.substring(sign));
                added = x.addOp(tx, WoundWaitLocks.OP_WRITE, row, arg);
            }
            if (!added) {
                throw new IllegalArgumentException("refused: " + op);
            }
        }
    }

    static void beginAll(WoundWaitLocks x, int... txs) {
        for (int tx : txs) {
            x.begin(tx);
        }
    }

    /** The events of n steps, one after another, such as "2 2 3". */
    static String events(WoundWaitLocks x, int n) {
        StringBuilder text = new StringBuilder();
        for (int i = 0; i < n; i++) {
            text.append(i == 0 ? "" : " ").append(x.step());
        }
        return text.toString();
    }

    static int state(WoundWaitLocks x, int tx) {
        return x.txInfo(tx, WoundWaitLocks.F_STATE);
    }

    static int timestamp(WoundWaitLocks x, int tx) {
        return x.txInfo(tx, WoundWaitLocks.F_TIMESTAMP);
    }

    /** The states of the transactions 0..txs-1, one after another, such as "1 3 0". */
    static String states(WoundWaitLocks x, int txs) {
        StringBuilder text = new StringBuilder();
        for (int tx = 0; tx < txs; tx++) {
            text.append(tx == 0 ? "" : " ").append(state(x, tx));
        }
        return text.toString();
    }

    /** The locks of the transactions 0..txs-1 on row, one after another, such as "1 1 0". */
    static String holders(WoundWaitLocks x, int txs, int row) {
        StringBuilder text = new StringBuilder();
        for (int tx = 0; tx < txs; tx++) {
            text.append(tx == 0 ? "" : " ").append(x.holdMode(tx, row));
        }
        return text.toString();
    }

    /** The values of the rows 0..rows-1, one after another, such as "5 0 7". */
    static String values(WoundWaitLocks x, int rows) {
        StringBuilder text = new StringBuilder();
        for (int row = 0; row < rows; row++) {
            text.append(row == 0 ? "" : " ").append(x.rowValue(row));
        }
        return text.toString();
    }

    static String queue(WoundWaitLocks x, int row) {
        StringBuilder text = new StringBuilder();
        for (int pos = 0; pos < x.queueLength(row); pos++) {
            text.append(pos == 0 ? "" : " ").append(x.queueAt(row, pos));
        }
        return text.toString();
    }

    /** Each thing that the queries show, by a name such as "tx0 pc", "tx0 on row1" or "row1 queue". */
    private static Map<String, String> things(WoundWaitLocks x) {
        String[] fields = {"state", "timestamp", "pc", "acc", "aborts", "rank", "wait row", "wait mode", "length"};
        Map<String, String> things = new LinkedHashMap<>();
        for (int tx = 0; tx < 8; tx++) {
            for (int field = 0; field < fields.length; field++) {
                things.put("tx" + tx + " " + fields[field], "" + x.txInfo(tx, field));
            }
            for (int row = 0; row < 16; row++) {
                things.put("tx" + tx + " on row" + row, "" + x.holdMode(tx, row));
            }
        }
        for (int row = 0; row < 16; row++) {
            things.put("row" + row + " value", "" + x.rowValue(row));
            things.put("row" + row + " queue", queue(x, row));
        }
        things.put("commits", "" + x.commits());
        return things;
    }

    /** What a step changes beside lastTx and lastWounds, such as "tx0 pc 1, tx0 on row1 2". */
    static String changesOfStep(WoundWaitLocks x) {
        Map<String, String> before = things(x);
        x.step();
        StringBuilder text = new StringBuilder();
        things(x).forEach((thing, now) -> {
            if (!now.equals(before.get(thing))) {
                text.append(text.length() == 0 ? "" : ", ").append(thing).append(' ').append(now);
            }
        });
        return text.toString();
    }

    /** All that the queries show of rows, locks, queues, transactions and commits, beyond their ranges too. */
    static String shownBesideTurn(WoundWaitLocks x) {
        StringBuilder text = new StringBuilder();
        for (int tx = -1; tx <= 8; tx++) {
            text.append("tx").append(tx).append('[');
            for (int field = -1; field <= 9; field++) {
                text.append(x.txInfo(tx, field)).append(' ');
            }
            text.append('|');
            for (int row = -1; row <= 16; row++) {
                text.append(x.holdMode(tx, row));
            }
            text.append("] ");
        }
        for (int row = -1; row <= 16; row++) {
            text.append("row").append(row).append('[').append(x.rowValue(row)).append(' ');
            text.append(x.queueLength(row)).append(':');
            for (int pos = -1; pos <= 8; pos++) {
                text.append(x.queueAt(row, pos)).append(' ');
            }
            text.append("] ");
        }
        return text.append(x.commits()).toString();
    }

    /** All that the queries show of an object. */
    static String shown(WoundWaitLocks x) {
        return shownBesideTurn(x) + " " + x.lastTx() + " " + x.lastWounds();
    }

    /** What an object shows now, its turns to the end, and what it shows then; it uses the object up. */
    static String future(WoundWaitLocks x) {
        StringBuilder text = new StringBuilder(shown(x));
        text.append(x.setRow(0, 77)).append(turns(x, 30));
        for (int tx = 7; tx >= 0; tx--) {
            text.append(x.addOp(tx, WoundWaitLocks.OP_WRITE, 0, tx)).append(x.begin(tx));
        }
        return text.append(turns(x, 200)).append(shown(x)).toString();
    }

    private static String turns(WoundWaitLocks x, int steps) {
        StringBuilder text = new StringBuilder();
        for (int i = 0; i < steps; i++) {
            text.append(x.step()).append(' ').append(x.lastTx()).append(' ').append(x.lastWounds()).append(' ');
        }
        return text.toString();
    }
}
