/** Counts checks, and prints those whose answer is not the one that is due. */
final class Checks {
    private int passed;
    private int failed;

    void due(String what, long got, long want) {
        if (got == want) {
            passed++;
        } else {
            failed++;
            System.out.println(what + " answered " + got + ", due is " + want);
        }
    }

    void holds(String what, boolean held) {
        due(what, held ? 1 : 0, 1);
    }

    int failed() {
        return failed;
    }

    /** Prints the sum, and says with which exit code the tests end. */
    int exitCode() {
        System.out.println(passed + " passed, " + failed + " failed");
        return failed == 0 ? 0 : 1;
    }
}
