/** Counts the answers that are not as due, and ends a test with exit code 1 if there was one. */
final class Check {
    private static int wrong = 0;
    private static int made = 0;
    private static int sentences = 0;

    private Check() {
    }

    static void same(String what, long got, long due) {
        made++;
        if (got != due) {
            wrong++;
            System.out.println(what + " answered " + got + ", due is " + due);
        }
    }

    static void isTrue(String what, boolean holds) {
        made++;
        if (!holds) {
            wrong++;
            System.out.println("does not hold: " + what);
        }
    }

    /** Runs the test of one sentence, and names the sentence if it is broken. */
    static void sentence(String where, String words, Runnable test) {
        int wrongBefore = wrong;
        int madeBefore = made;
        sentences++;
        test.run();
        // A test that looks at nothing would hold for any program.
        isTrue("something is checked", made > madeBefore);
        if (wrong > wrongBefore) {
            System.out.println("BROKEN: " + where + ": " + words);
        }
    }

    static void end() {
        String tested = sentences == 0 ? "" : sentences + " sentences, ";
        System.out.println(tested + made + " checks, " + wrong + " wrong");
        if (wrong != 0 || made == 0) {
            System.exit(1);
        }
    }
}
