import java.util.ArrayDeque;
import java.util.ArrayList;
import java.util.Arrays;
import java.util.Deque;
import java.util.List;
import java.util.TreeSet;

/**
 * A second reading of the document, kept as near to its words as it goes and kept in other shapes than
 * the class: lists, sets and objects. The counters tell which rare turns a run has met.
 */
final class Model {
    private static final class Op {
        int kind;
        int row;
        int arg;
    }

    private static final class Saved {
        int row;
        int value;
    }

    private static final class Tx {
        int state = 0;
        int timestamp = 0;
        int pc = 0;
        int acc = 0;
        int aborts = 0;
        int rank = 0;
        int waitRow = -1;
        int waitMode = 0;
        final List<Op> script = new ArrayList<>();
        final Deque<Saved> undo = new ArrayDeque<>();
        final int[] lock = new int[16];
    }

    private final int policy;
    private final List<Tx> txs = new ArrayList<>();
    private final List<List<Integer>> queues = new ArrayList<>();
    private final int[] value;
    private int counter = 1;
    private int commits = 0;
    private int cursor;
    private int lastTx = -1;
    private int lastWounds = 0;

    int woundsOfSeveral = 0;
    int woundsAfterHandoff = 0;
    int waitsAfterWounds = 0;
    int waitingUpgrades = 0;
    int longestQueue = 0;
    int handoffsOfSeveral = 0;
    int deaths = 0;

    Model(int policy, int rows, int txCount) {
        this.policy = policy <= 0 ? 0 : 1;
        value = new int[Math.max(1, Math.min(16, rows))];
        for (int row = 0; row < value.length; row++) {
            queues.add(new ArrayList<>());
        }
        for (int tx = 0; tx < Math.max(2, Math.min(8, txCount)); tx++) {
            txs.add(new Tx());
        }
        cursor = txs.size() - 1;
    }

    private boolean row(int row) {
        return 0 <= row && row < value.length;
    }

    private boolean tx(int tx) {
        return 0 <= tx && tx < txs.size();
    }

    boolean setRow(int row, int to) {
        if (!row(row) || counter > 1) {
            return false;
        }
        value[row] = to;
        return true;
    }

    boolean addOp(int tx, int kind, int row, int arg) {
        if (!tx(tx) || txs.get(tx).state != 0 || txs.get(tx).script.size() == 8) {
            return false;
        }
        if (kind < 1 || kind > 2 || !row(row)) {
            return false;
        }
        Op op = new Op();
        op.kind = kind;
        op.row = row;
        op.arg = arg;
        txs.get(tx).script.add(op);
        return true;
    }

    int begin(int tx) {
        if (!tx(tx) || txs.get(tx).state != 0) {
            return 0;
        }
        txs.get(tx).timestamp = counter;
        txs.get(tx).state = 1;
        return counter++;
    }

    int step() {
        lastTx = -1;
        lastWounds = 0;
        int c = cursor;
        for (int i = 1; i <= txs.size(); i++) {
            int t = (c + i) % txs.size();
            int state = txs.get(t).state;
            if (state == 1 || state == 3) {
                cursor = t;
                lastTx = t;
                return state == 3 ? restart(txs.get(t)) : turn(t, txs.get(t));
            }
        }
        return 0;
    }

    int run(int n) {
        int limit = Math.max(1, Math.min(64, n));
        int done = 0;
        while (done < limit && step() != 0) {
            done++;
        }
        return done;
    }

    private int restart(Tx t) {
        t.state = 1;
        return 1;
    }

    private int turn(int number, Tx t) {
        if (t.pc == t.script.size()) {
            commit(t);
            return 5;
        }
        Op op = t.script.get(t.pc);
        int mode = op.kind;
        if (t.lock[op.row] == mode || t.lock[op.row] == 2) {
            return perform(t, op);
        }
        TreeSet<Integer> blockers = blockers(number, mode, op.row);
        if (blockers.isEmpty()) {
            t.lock[op.row] = mode;
            return perform(t, op);
        }
        if (policy == 1) {
            for (int u : blockers) {
                if (txs.get(u).timestamp < t.timestamp) {
                    deaths++;
                    abort(t);
                    return 4;
                }
            }
            return waitFor(number, t, mode, op.row);
        }
        for (int u : blockers) {
            if (txs.get(u).timestamp > t.timestamp) {
                woundsAfterHandoff += blockers(number, mode, op.row).contains(u) ? 0 : 1;
                abort(txs.get(u));
                lastWounds++;
            }
        }
        woundsOfSeveral += lastWounds > 1 ? 1 : 0;
        if (blockers(number, mode, op.row).isEmpty()) {
            t.lock[op.row] = mode;
            return perform(t, op);
        }
        waitsAfterWounds += lastWounds > 0 ? 1 : 0;
        return waitFor(number, t, mode, op.row);
    }

    private int waitFor(int number, Tx t, int mode, int row) {
        queues.get(row).add(number);
        t.state = 2;
        t.waitRow = row;
        t.waitMode = mode;
        waitingUpgrades += t.lock[row] == 1 ? 1 : 0;
        longestQueue = Math.max(longestQueue, queues.get(row).size());
        return 3;
    }

    private int perform(Tx t, Op op) {
        if (op.kind == 1) {
            t.acc += value[op.row];
        } else {
            Saved saved = new Saved();
            saved.row = op.row;
            saved.value = value[op.row];
            t.undo.push(saved);
            value[op.row] = t.acc + op.arg;
        }
        t.pc++;
        return 2;
    }

    private static boolean conflict(int held, int asked) {
        return asked == 1 ? held == 2 : held == 1 || held == 2;
    }

    private TreeSet<Integer> blockers(int t, int mode, int row) {
        TreeSet<Integer> found = new TreeSet<>(queues.get(row));
        for (int u = 0; u < txs.size(); u++) {
            if (u != t && conflict(txs.get(u).lock[row], mode)) {
                found.add(u);
            }
        }
        return found;
    }

    private void abort(Tx v) {
        if (v.state == 2) {
            queues.get(v.waitRow).remove(Integer.valueOf(txs.indexOf(v)));
        }
        while (!v.undo.isEmpty()) {
            Saved saved = v.undo.pop();
            value[saved.row] = saved.value;
        }
        Arrays.fill(v.lock, 0);
        v.state = 3;
        v.pc = 0;
        v.acc = 0;
        v.waitRow = -1;
        v.waitMode = 0;
        v.aborts++;
        handOffAll();
    }

    private void commit(Tx t) {
        t.state = 4;
        t.rank = ++commits;
        t.undo.clear();
        Arrays.fill(t.lock, 0);
        handOffAll();
    }

    private void handOffAll() {
        for (int row = 0; row < value.length; row++) {
            int before = queues.get(row).size();
            while (!queues.get(row).isEmpty() && admits(queues.get(row).get(0), row)) {
                Tx head = txs.get(queues.get(row).remove(0));
                head.lock[row] = head.waitMode;
                head.state = 1;
                head.waitRow = -1;
                head.waitMode = 0;
            }
            handoffsOfSeveral += before - queues.get(row).size() > 1 ? 1 : 0;
        }
    }

    private boolean admits(int head, int row) {
        for (int u = 0; u < txs.size(); u++) {
            if (u != head && conflict(txs.get(u).lock[row], txs.get(head).waitMode)) {
                return false;
            }
        }
        return true;
    }

    int txInfo(int number, int field) {
        if (!tx(number) || field < 0 || field > 8) {
            return 0;
        }
        Tx t = txs.get(number);
        int[] fields = {
            t.state, t.timestamp, t.pc, t.acc, t.aborts, t.rank, t.waitRow, t.waitMode, t.script.size()
        };
        return fields[field];
    }

    /** The same text as Table.shown gives of the class. */
    String shown() {
        StringBuilder text = new StringBuilder();
        for (int t = -1; t <= 8; t++) {
            text.append("tx").append(t).append('[');
            for (int field = -1; field <= 9; field++) {
                text.append(txInfo(t, field)).append(' ');
            }
            text.append('|');
            for (int row = -1; row <= 16; row++) {
                text.append(tx(t) && row(row) ? txs.get(t).lock[row] : 0);
            }
            text.append("] ");
        }
        for (int row = -1; row <= 16; row++) {
            List<Integer> queue = row(row) ? queues.get(row) : List.of();
            text.append("row").append(row).append('[').append(row(row) ? value[row] : 0).append(' ');
            text.append(queue.size()).append(':');
            for (int pos = -1; pos <= 8; pos++) {
                text.append(0 <= pos && pos < queue.size() ? queue.get(pos) : -1).append(' ');
            }
            text.append("] ");
        }
        text.append(commits).append(" ").append(lastTx).append(" ").append(lastWounds);
        return text.toString();
    }
}
