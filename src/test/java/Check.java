/** Counts and prints answers that aren't as due. */
final class Check {
    private static int wrong;

    private Check() {
    }

    static void due(int promise, String call, int got, int want) {
        if (got != want) {
            wrong++;
            System.out.println("promise " + promise + ": " + call + " answered " + got + ", due is " + want);
        }
    }

    /** Says how it went and ends the program with the code that tells it. */
    static void end(String what) {
        System.out.println(what + ": " + (wrong == 0 ? "all answers are as due" : wrong + " answers are not as due"));
        System.exit(wrong == 0 ? 0 : 1);
    }
}
