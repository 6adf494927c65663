/** Promise 6: run. */
public final class RunTest {
    private static final Due due = new Due("Promise 6");

    public static void main(String[] args) {
        due.holds("first clamps n to 1..64: below 1 becomes 1", RunTest::takesOneStepAtLeast);
        due.holds("above 64 becomes 64", RunTest::takesSixtyFourAtMost);
        due.holds("It then calls step() up to n times", RunTest::takesUpToN);
        due.holds("stopping right after a step that answers EV_NONE", RunTest::stopsAfterNone);
        due.holds("It answers the number of those steps that did not answer EV_NONE.", RunTest::countsTheTurns);
        due.holds("The answer is between 0 and the clamped n.", RunTest::answersWithinTheClamp);
        due.holds("The effects are exactly those of the steps taken, in order.", RunTest::doesWhatTheStepsDo);
        due.holds("That includes lastTx and lastWounds, which describe the last step called.",
            RunTest::tellsTheLastStep);
        due.end();
    }

    private static int clamped(int n) {
        return n < 1 ? 1 : Math.min(n, 64);
    }

    /** Eight transactions of eight reads each: 72 steps, and no contention. */
    private static WoundWaitLocks longWork() {
        WoundWaitLocks x = new WoundWaitLocks(0, 1, 8);
        for (int tx = 0; tx < 8; tx++) {
            Table.script(x, tx, "r0 r0 r0 r0 r0 r0 r0 r0");
            x.begin(tx);
        }
        return x;
    }

    private static void takesOneStepAtLeast() {
        int[] counts = {Integer.MIN_VALUE, Integer.MIN_VALUE + 1, -65, -64, -63, -2, -1, 0, 1};
        for (int n : counts) {
            WoundWaitLocks x = longWork();
            due.is("run(" + n + ")", x.run(n), 1);
            due.is("lastTx()", x.lastTx(), 0);
            due.is("F_PC of 0", x.txInfo(0, WoundWaitLocks.F_PC), 1);
            due.is("F_PC of 1", x.txInfo(1, WoundWaitLocks.F_PC), 0);
        }
    }

    private static void takesSixtyFourAtMost() {
        int[] counts = {64, 65, 66, 72, 73, 128, 1 << 16, Integer.MAX_VALUE - 1, Integer.MAX_VALUE};
        for (int n : counts) {
            WoundWaitLocks x = longWork();
            due.is("run(" + n + ")", x.run(n), 64);
            due.is("lastTx()", x.lastTx(), 7);
            due.is("F_PC of 7", x.txInfo(7, WoundWaitLocks.F_PC), 8);
            due.is("commits()", x.commits(), 0);
        }
    }

    private static void takesUpToN() {
        for (int n = 1; n <= 64; n++) {
            WoundWaitLocks x = longWork();
            due.is("run(" + n + ")", x.run(n), n);
            due.is("lastTx() after run(" + n + ")", x.lastTx(), (n - 1) % 8);
            due.is("run(64) of the rest", x.run(64), Math.min(64, 72 - n));
        }
    }

    private static void stopsAfterNone() {
        WoundWaitLocks x = longWork();
        x.run(64);
        due.is("run(8) of the last 8 steps", x.run(8), 8);
        due.is("lastTx() with no step after the last one", x.lastTx(), 7);
        due.is("run(8) of nothing", x.run(8), 0);
        due.is("lastTx()", x.lastTx(), -1);

        WoundWaitLocks y = longWork();
        y.run(64);
        due.is("run(9) of the last 8 steps", y.run(9), 8);
        due.is("lastTx() after the step that found none", y.lastTx(), -1);
    }

    private static void countsTheTurns() {
        for (int n : Table.ANY) {
            WoundWaitLocks fresh = new WoundWaitLocks(1, 4, 4);
            due.is("run(" + n + ") of a fresh object", fresh.run(n), 0);
            due.is("lastTx()", fresh.lastTx(), -1);
            WoundWaitLocks three = new WoundWaitLocks(1, 4, 4);
            Table.beginAll(three, 0, 1, 3);
            due.is("run(" + n + ") of three steps", three.run(n), Math.min(3, clamped(n)));
        }
    }

    private static void answersWithinTheClamp() {
        for (int number = 0; number < Situations.COUNT; number++) {
            for (int n : Table.ANY) {
                int answer = Situations.make(number).run(n);
                String name = Situations.name(number) + ": run(" + n + ") answered " + answer;
                due.yes(name, answer >= 0 && answer <= clamped(n));
            }
        }
    }

    private static void doesWhatTheStepsDo() {
        for (int number = 0; number < Situations.COUNT; number++) {
            for (int n : new int[] {0, 1, 2, 5, 17, 64, 65}) {
                WoundWaitLocks ran = Situations.make(number);
                WoundWaitLocks stepped = Situations.make(number);
                int taken = 0;
                boolean more = true;
                for (int i = 0; i < clamped(n) && more; i++) {
                    more = stepped.step() != WoundWaitLocks.EV_NONE;
                    taken += more ? 1 : 0;
                }
                String name = Situations.name(number) + ": run(" + n + ")";
                due.is(name, ran.run(n), taken);
                due.same(name + ", the state", Table.shown(ran), Table.shown(stepped));
            }
        }
    }

    private static void tellsTheLastStep() {
        WoundWaitLocks x = new WoundWaitLocks(WoundWaitLocks.WOUND_WAIT, 1, 3);
        Table.script(x, 0, "r0 r0");
        Table.script(x, 1, "r0 r0");
        Table.script(x, 2, "w0+2");
        Table.beginAll(x, 2, 0, 1);
        due.is("run(3)", x.run(3), 3);
        due.is("lastTx() after the wounding step", x.lastTx(), 2);
        due.is("lastWounds() after the wounding step", x.lastWounds(), 2);
        due.is("run(2)", x.run(2), 2);
        due.is("lastTx() after restarts", x.lastTx(), 1);
        due.is("lastWounds() after restarts", x.lastWounds(), 0);
        x.run(64);
        due.is("lastTx() after EV_NONE", x.lastTx(), -1);
        due.is("lastWounds() after EV_NONE", x.lastWounds(), 0);
    }
}
