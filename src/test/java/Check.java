import java.util.function.IntSupplier;

/** Counts and prints answers that aren't as due; has what tests of promises begin with. */
final class Check {
    private static int wrong;
    private static Doc doc;
    private static String sentence = "";

    private Check() {
    }

    /** Groups 1, 2 below 1, 3; one process in each of 1, 2, 3, named 0, 1, 2; batches of one page. */
    static GroupLimits small() {
        GroupLimits x = new GroupLimits();
        x.batch(1);
        x.group(0);
        x.group(1);
        x.group(0);
        x.process(1, 0);
        x.process(2, 0);
        x.process(3, 0);
        return x;
    }

    /** One group, 1, with some processes, all of ADJ 0, and batches of one page. */
    static GroupLimits flat(int processes) {
        GroupLimits x = new GroupLimits();
        x.batch(1);
        x.group(0);
        for (int p = 0; p < processes; p++) {
            x.process(1, 0);
        }
        return x;
    }

    /** A state in which every call can do something. */
    static GroupLimits busy() {
        GroupLimits x = new GroupLimits();
        x.group(0);
        x.group(1);
        x.group(0);
        x.process(1, 0);
        x.process(2, 2);
        x.process(3, 0);
        x.swap(30);
        x.limit(1, 2, 20);
        x.limit(1, 3, 40);
        x.charge(0, 0, 18);
        x.charge(1, 1, 9);
        x.charge(1, 0, 3);
        x.charge(2, 0, 6);
        x.take(3, 3);
        x.work(0, 40);
        x.work(2, 9);
        x.trigger(1, 3, 1);
        x.tick(3);
        return x;
    }

    static void due(int promise, String call, int got, int want) {
        sentence = "promise " + promise;
        due(call, got, want);
    }

    /** What follows is due by these words of the document, of a promise or (0) of the terms. */
    static void says(int section, String words) {
        if (doc == null) {
            doc = new Doc();
        }
        sentence = (section == Doc.TERMS ? "terms" : "promise " + section) + ", \"" + words + "\"";
        if (!doc.says(section, words)) {
            wrong++;
            System.out.println("the document doesn't say: " + sentence);
        }
    }

    static void due(String call, int got, int want) {
        if (got != want) {
            wrong++;
            System.out.println(sentence + ": " + call + " answered " + got + ", due is " + want);
        }
    }

    static void due(String what, boolean holds) {
        due(what + " (1: it is so)", holds ? 1 : 0, 1);
    }

    /** A call that is refused with a code: nothing that can be seen has changed, nothing more can be undone. */
    static void refused(String what, GroupLimits x, IntSupplier call, int code) {
        long before = seen(x);
        int can = x.count(6);
        due(what, call.getAsInt(), code);
        due(what + ": nothing has changed", seen(x) == before);
        due(what + ": what can be undone", x.count(6), can);
    }

    /** A call that changes nothing and can't be undone, with its answer. */
    static void told(String what, GroupLimits x, IntSupplier call, int want) {
        refused(what, x, call, want);
    }

    /** All that can be seen of the state, as one number. */
    static long seen(GroupLimits x) {
        long sum = 0;
        for (int what = 0; what <= 12; what++) {
            sum = 31 * sum + (what == 6 ? 0 : x.count(what));
        }
        for (int g = 0; g < 12; g++) {
            for (int what = 0; what <= 15; what++) {
                sum = 31 * sum + x.of(g, what);
            }
            for (int i = 0; i < 9; i++) {
                sum = 31 * sum + x.average(g, i % 3, i / 3);
                sum = 31 * sum + x.pressure(g, i % 3, i / 3 * 15 + 1);
                sum = 31 * sum + x.events(g, i % 4);
                sum = 31 * sum + x.stalls(g, i % 3);
            }
        }
        for (int p = 0; p < 16; p++) {
            for (int what = 0; what <= 8; what++) {
                sum = 31 * sum + x.proc(p, what);
            }
        }
        for (int i = 0; i < 8; i++) {
            sum = 31 * sum + x.fired(i / 2, i % 2);
        }
        return sum;
    }

    /** The document's words that no test of this program has quoted are wrong, too. */
    static void allIsQuoted() {
        for (String words : doc.unquoted()) {
            wrong++;
            System.out.println("no test quotes " + words);
        }
    }

    /** Says how it went and ends the program with the code that tells it. */
    static void end(String what) {
        System.out.println(what + ": " + (wrong == 0 ? "all answers are as due" : wrong + " answers are not as due"));
        System.exit(wrong == 0 ? 0 : 1);
    }
}
