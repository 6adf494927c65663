/** Counts the answers of one test that are not the ones that are due, and prints each. */
final class Due {
    private int asked = 0;
    private int wrong = 0;

    void is(String call, long got, long want) {
        same(call, Long.toString(got), Long.toString(want));
    }

    void yes(String call, boolean got) {
        same(call, Boolean.toString(got), "true");
    }

    void no(String call, boolean got) {
        same(call, Boolean.toString(got), "false");
    }

    void same(String call, String got, String want) {
        asked++;
        if (!got.equals(want)) {
            wrong++;
            System.out.println(call + " answered " + got + ", due is " + want);
        }
    }

    boolean allRight() {
        return wrong == 0;
    }

    void end() {
        System.out.println(wrong + " of " + asked + " answers are not as due");
        if (wrong != 0 || asked == 0) {
            System.exit(1);
        }
    }
}
