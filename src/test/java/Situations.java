import java.util.function.Consumer;

/**
 * Objects in many states. Two objects of the same number are twins: made by the same calls, so that a call
 * that changes nothing can be made on one of them alone without their parting later.
 */
final class Situations {
    static final int ROWS = 4;
    static final int TXS = 6;
    /** Never begun, so that there is an idle transaction in every situation. */
    static final int IDLE_TX = 5;
    private static final int FRESH = 2;
    private static final int SET_UP = 2;
    /** All is done after 64 steps under wound-wait and after 120 under wait-die; the end is to be met too. */
    private static final int MOST_STEPS = 123;
    static final int COUNT = FRESH + SET_UP + 2 * MOST_STEPS;

    private Situations() {
    }

    static WoundWaitLocks make(int number) {
        if (number < FRESH) {
            return new WoundWaitLocks(policy(number), ROWS, TXS);
        }
        WoundWaitLocks x = setUp(policy(number));
        if (number >= FRESH + SET_UP) {
            Table.beginAll(x, 4, 2, 0, 3, 1);
            for (int i = 0; i < steps(number); i++) {
                x.step();
            }
        }
        return x;
    }

    static int policy(int number) {
        return number % 2;
    }

    static boolean hasBegun(int number) {
        return number >= FRESH + SET_UP;
    }

    static String name(int number) {
        String policy = policy(number) == WoundWaitLocks.WOUND_WAIT ? "wound-wait" : "wait-die";
        if (number < FRESH) {
            return policy + ", fresh";
        }
        return policy + (hasBegun(number) ? ", after " + steps(number) + " steps" : ", set up, none begun");
    }

    /** Asks that the call leaves an object as it was, in every situation, now and in all that follows. */
    static void unchangedBy(Due due, String call, Consumer<WoundWaitLocks> made) {
        for (int number = 0; number < COUNT; number++) {
            WoundWaitLocks x = make(number);
            made.accept(x);
            boolean same = Table.future(x).equals(Table.future(make(number)));
            due.yes(call + " changes nothing: " + name(number), same);
        }
    }

    private static int steps(int number) {
        return (number - FRESH - SET_UP) / 2;
    }

    private static WoundWaitLocks setUp(int policy) {
        WoundWaitLocks x = new WoundWaitLocks(policy, ROWS, TXS);
        for (int row = 0; row < ROWS; row++) {
            x.setRow(row, 10 * (row + 1));
        }
        Table.script(x, 0, "r0 w1+1 r2 w0+2");
        Table.script(x, 1, "w1+3 r0 w2+4 r3 r3");
        Table.script(x, 2, "r2 w0+5 r1 w3+1 w3+2 w3+3 r3 w2+4");
        Table.script(x, 3, "w0+6 w2+7 w1+8");
        Table.script(x, 4, "r1 r2 w2+9");
        Table.script(x, IDLE_TX, "r0 w3+4");
        return x;
    }
}
