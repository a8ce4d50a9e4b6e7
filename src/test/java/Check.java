/** What the tests share: it prints every answer that is not the one that is due, and tells the end. */
final class Check {
    private int wrong = 0;

    void due(String call, long got, long want) {
        if (got != want) {
            wrong++;
            System.out.println(call + " answered " + got + ", due is " + want);
        }
    }

    void holds(String what, boolean truth) {
        if (!truth) {
            wrong++;
            System.out.println("does not hold: " + what);
        }
    }

    void end() {
        if (wrong != 0) {
            System.out.println(wrong + " not as due");
            System.exit(1);
        }
    }
}
