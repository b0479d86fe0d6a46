/** Counts what the tests of one file find, and prints what is not as due. */
final class Check {
    private final String file;
    private String test = "";
    private int passed;
    private int failed;
    private boolean good = true;

    Check(String file) {
        this.file = file;
    }

    /** Begins a test; the one before it ends. */
    void test(String name) {
        close();
        test = name;
    }

    void due(String call, int got, int want) {
        if (got != want) {
            good = false;
            System.out.println(file + ", " + test + ": " + call + " answered " + got + ", due is " + want);
        }
    }

    void isTrue(String what, boolean holds) {
        if (!holds) {
            good = false;
            System.out.println(file + ", " + test + ": " + what + " does not hold");
        }
    }

    /** Ends the last test, prints the counts, and ends the program with 1 if a test failed. */
    void finish() {
        close();
        System.out.println(passed + " passed, " + failed + " failed");
        if (failed > 0) {
            System.exit(1);
        }
    }

    private void close() {
        if (!test.isEmpty() && good) {
            passed++;
        } else if (!test.isEmpty()) {
            failed++;
        }
        test = "";
        good = true;
    }
}
