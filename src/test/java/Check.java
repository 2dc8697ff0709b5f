/** Counts answers that are not as due, for the tests of the project. */
final class Check {
    private static int tests = 0;
    private static int right = 0;
    private static int wrong = 0;

    private Check() {
    }

    /** A test that looks at no answer, or that throws, counts as wrong: it shows nothing. */
    static void test(String sentence, Runnable body) {
        tests++;
        int rightBefore = right;
        int wrongBefore = wrong;
        try {
            body.run();
        } catch (RuntimeException thrown) {
            wrong++;
            System.out.println("threw " + thrown);
        }
        if (right == rightBefore && wrong == wrongBefore) {
            wrong++;
            System.out.println("nothing was looked at");
        }
        if (wrong != wrongBefore) {
            System.out.println("broken: " + sentence);
        }
    }

    static void same(String what, Object got, Object want) {
        if (got.equals(want)) {
            right++;
            return;
        }
        wrong++;
        // A broken program can be wrong at every call; the first few tell enough.
        if (wrong <= 20) {
            System.out.println(what + ": got " + got + ", due is " + want);
        }
    }

    static void isTrue(String what, boolean got) {
        same(what, got, true);
    }

    static void isFalse(String what, boolean got) {
        same(what, got, false);
    }

    static void finish() {
        System.out.println(tests + " tests: " + right + " answers as due, " + wrong + " not");
        if (wrong != 0 || right == 0) {
            System.exit(1);
        }
    }
}
