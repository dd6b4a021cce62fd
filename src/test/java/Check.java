/** Counts answers that are not the due ones; a test ends through {@link #end}. */
final class Check {
    private static int checks = 0;
    private static int wrong = 0;
    private static String about = "";

    private Check() {
    }

    /**
     * Runs the test of one sentence of the document, which is told with each check that fails. A
     * call that throws is a wrong answer like any other, and the sentences that follow are tested.
     */
    static void sentence(String quoted, Runnable test) {
        about = quoted + " | ";
        int before = checks;
        try {
            test.run();
        } catch (RuntimeException thrown) {
            holds("no call throws, but one threw " + thrown, false);
        }
        holds("the test makes a check", checks > before);
        about = "";
    }

    static void due(String what, long got, long want) {
        checks++;
        if (got != want) {
            wrong++;
            System.out.println(about + what + " answered " + got + ", due is " + want);
        }
    }

    static void holds(String what, boolean held) {
        checks++;
        if (!held) {
            wrong++;
            System.out.println(about + "does not hold: " + what);
        }
    }

    static boolean allRight() {
        return wrong == 0;
    }

    static void end() {
        System.out.println(checks + " checks, " + wrong + " wrong");
        if (wrong != 0 || checks == 0) {
            System.exit(1);
        }
    }
}
