/** What the tests share: it prints every answer that is not the one that is due, and tells the end. */
final class Check {
    private int wrong = 0;
    private String sentence = "";

    /** One test: a sentence of the document, and the calls that show that it holds. */
    void test(String said, Runnable shown) {
        sentence = "[" + said + "] ";
        try {
            shown.run();
        } catch (RuntimeException thrown) {
            // No call may ever throw; the tests of the other sentences go on.
            fail("threw " + thrown);
        }
        sentence = "";
    }

    void due(String call, long got, long want) {
        if (got != want) {
            fail(call + " answered " + got + ", due is " + want);
        }
    }

    void holds(String what, boolean truth) {
        if (!truth) {
            fail("does not hold: " + what);
        }
    }

    void end() {
        if (wrong != 0) {
            System.out.println(wrong + " not as due");
            System.exit(1);
        }
    }

    private void fail(String what) {
        wrong++;
        System.out.println(sentence + what);
    }
}
