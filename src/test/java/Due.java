/** Counts the answers of one test that are not the ones that are due, and prints each with its sentence. */
final class Due {
    private final String part;
    private String sentence = "";
    private int sentences = 0;
    private int asked = 0;
    private int wrong = 0;

    /** The part of the document that the test is about. */
    Due(String part) {
        this.part = part;
    }

    /** Runs the test of one sentence of the document, or in brackets of what follows from several. */
    void holds(String sentence, Runnable test) {
        this.sentence = sentence;
        sentences++;
        int askedBefore = asked;
        try {
            test.run();
        } catch (RuntimeException thrown) {
            fail("threw " + thrown + " at " + thrown.getStackTrace()[0]);
        }
        if (asked == askedBefore) {
            fail("nothing was asked");
        }
    }

    void is(String call, long got, long want) {
        same(call, Long.toString(got), Long.toString(want));
    }

    void yes(String call, boolean got) {
        same(call, Boolean.toString(got), "true");
    }

    void no(String call, boolean got) {
        same(call, Boolean.toString(got), "false");
    }

    void same(String call, String got, String want) {
        asked++;
        if (!got.equals(want)) {
            fail(call + " answered " + got + ", due is " + want);
        }
    }

    int wrong() {
        return wrong;
    }

    boolean allRight() {
        return wrong == 0;
    }

    void end() {
        System.out.println(part + ": " + sentences + " sentences, " + asked + " answers, " + wrong + " not as due");
        if (wrong != 0 || sentences == 0) {
            System.exit(1);
        }
    }

    private void fail(String what) {
        wrong++;
        System.out.println(part + ", \"" + sentence + "\": " + what);
    }
}
