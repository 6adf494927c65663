/** What the tests have in common: scripts written shortly, and all that an object shows. */
final class Table {
    /** Numbers outside every range, and at the edges of int. */
    static final int[] FAR = {
        Integer.MIN_VALUE, Integer.MIN_VALUE + 1, -129, -17, -2, -1, 17, 128, 129, 1 << 16,
        1 << 28, 1 << 29, Integer.MAX_VALUE - 1, Integer.MAX_VALUE
    };

    private Table() {
    }

    /** Adds operations to tx, such as "r0 w3+5 w3-5": reads of a row, and writes of acc and a number. */
    static void script(WoundWaitLocks x, int tx, String ops) {
        for (String op : ops.split(" ")) {
            String rest = op.substring(1);
            boolean added;
            if (op.charAt(0) == 'r') {
                added = x.addOp(tx, WoundWaitLocks.OP_READ, Integer.parseInt(rest), 0);
            } else {
                int sign = Math.max(rest.indexOf('+'), rest.indexOf('-'));
                int row = Integer.parseInt(rest.substring(0, sign));
                int arg = Integer.parseInt(rest.substring(sign));
                added = x.addOp(tx, WoundWaitLocks.OP_WRITE, row, arg);
            }
            if (!added) {
                throw new IllegalArgumentException("refused: " + op);
            }
        }
    }

    static void beginAll(WoundWaitLocks x, int... txs) {
        for (int tx : txs) {
            x.begin(tx);
        }
    }

    /** The events of n steps, one after another, such as "2 2 3". */
    static String events(WoundWaitLocks x, int n) {
        StringBuilder text = new StringBuilder();
        for (int i = 0; i < n; i++) {
            text.append(i == 0 ? "" : " ").append(x.step());
        }
        return text.toString();
    }

    /** All that the queries show of an object, beyond its ranges too. */
    static String shown(WoundWaitLocks x) {
        StringBuilder text = new StringBuilder();
        for (int tx = -1; tx <= 8; tx++) {
            text.append("tx").append(tx).append('[');
            for (int field = -1; field <= 9; field++) {
                text.append(x.txInfo(tx, field)).append(' ');
            }
            text.append('|');
            for (int row = -1; row <= 16; row++) {
                text.append(x.holdMode(tx, row));
            }
            text.append("] ");
        }
        for (int row = -1; row <= 16; row++) {
            text.append("row").append(row).append('[').append(x.rowValue(row)).append(' ');
            text.append(x.queueLength(row)).append(':');
            for (int pos = -1; pos <= 8; pos++) {
                text.append(x.queueAt(row, pos)).append(' ');
            }
            text.append("] ");
        }
        text.append(x.lastTx()).append(' ').append(x.lastWounds()).append(' ').append(x.commits());
        return text.toString();
    }

    static String queue(WoundWaitLocks x, int row) {
        StringBuilder text = new StringBuilder();
        for (int pos = 0; pos < x.queueLength(row); pos++) {
            text.append(pos == 0 ? "" : " ").append(x.queueAt(row, pos));
        }
        return text.toString();
    }
}
