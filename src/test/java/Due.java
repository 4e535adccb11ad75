/** Counts answers, and prints each that is not the one that is due. */
final class Due {
    private static int wrong = 0;
    private static int answers = 0;

    private Due() {
    }

    static void is(String what, long got, long want) {
        answers++;
        if (got != want) {
            wrong++;
            System.out.println(what + " answered " + got + ", due is " + want);
        }
    }

    static void text(String what, String got, String want) {
        answers++;
        if (!got.equals(want)) {
            wrong++;
            System.out.println(what + " answered <" + got + ">, due is <" + want + ">");
        }
    }

    /** Ends the test, with exit code 1 if an answer was not as due. */
    static void end() {
        System.out.println(answers + " answers, " + wrong + " not as due");
        if (wrong != 0) {
            System.exit(1);
        }
    }
}
