/** Counts and prints answers that aren't as due; has what tests of promises begin with. */
final class Check {
    private static int wrong;

    private Check() {
    }

    /** Groups 1, 2 below 1, 3; one process in each of 1, 2, 3, named 0, 1, 2; batches of one page. */
    static GroupLimits small() {
        GroupLimits x = new GroupLimits();
        x.batch(1);
        x.group(0);
        x.group(1);
        x.group(0);
        x.process(1, 0);
        x.process(2, 0);
        x.process(3, 0);
        return x;
    }

    static void due(int promise, String call, int got, int want) {
        if (got != want) {
            wrong++;
            System.out.println("promise " + promise + ": " + call + " answered " + got + ", due is " + want);
        }
    }

    /** Says how it went and ends the program with the code that tells it. */
    static void end(String what) {
        System.out.println(what + ": " + (wrong == 0 ? "all answers are as due" : wrong + " answers are not as due"));
        System.exit(wrong == 0 ? 0 : 1);
    }
}
