/** Compares answers with what is due, prints every wrong one, and ends the test. */
final class Due {
    private static int wrong = 0;
    private static String about = "";

    private Due() {}

    /** The document's sentence that the answers from here on are about; it is printed with them. */
    static void about(String sentence) {
        about = "[" + sentence + "] ";
    }

    static void is(String call, int got, int want) {
        if (got != want) {
            wrong++;
            System.out.println(about + call + " answered " + got + ", due is " + want);
        }
    }

    static void is(String call, boolean got, boolean want) {
        if (got != want) {
            wrong++;
            System.out.println(about + call + " answered " + got + ", due is " + want);
        }
    }

    static void end() {
        System.out.println(wrong == 0 ? "all answers are as due" : wrong + " answers are not as due");
        if (wrong != 0) {
            System.exit(1);
        }
    }
}
