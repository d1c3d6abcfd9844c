/** Counts the answers that are due and those that are not, and tells each of the latter. */
final class Check {
    private int passed;
    private int failed;
    private String part = "";

    void begin(String part) {
        this.part = part;
    }

    void due(String call, long want, long got) {
        if (got == want) {
            passed++;
        } else {
            failed++;
            System.out.println(part + ": " + call + " answered " + got + ", due is " + want);
        }
    }

    void fail(String what) {
        failed++;
        System.out.println(part + ": " + what);
    }

    void pass() {
        passed++;
    }

    boolean hasFailed() {
        return failed > 0;
    }

    /** The closing line; the program ends with 1 if a check failed. */
    void end() {
        System.out.println(passed + " passed, " + failed + " failed");
        if (failed > 0) {
            System.exit(1);
        }
    }
}
