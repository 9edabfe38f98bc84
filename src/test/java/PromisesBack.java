/** Promises 49 to 52: every sentence with its edges. */
final class PromisesBack {
    private static final int ANON = 0;
    private static final int CACHE = 1;
    private static final int[] FAR = {Integer.MIN_VALUE, Integer.MAX_VALUE};

    private PromisesBack() {
    }

    static void run() {
        undo();
        image();
        restore();
        count();
    }

    private static void undo() {
        Check.says(49, "n calls (1 to 10) are UNDONE: how many still can be. -3: n, more than can be.");
        GroupLimits x = new GroupLimits();
        Check.refused("none can be", x, () -> x.undo(1), -3);
        x.cap(1);
        Check.refused("more than can be", x, () -> x.undo(2), -3);
        Check.due("the only one", x.undo(1) * 100 + x.count(12), 10);
        for (int c = 1; c <= 11; c++) {
            x.cap(10 + c);
        }
        for (int n : new int[] {-1, 0, 11, FAR[0], FAR[1]}) {
            Check.refused("n", x, () -> x.undo(n), -3);
        }
        Check.due("one", x.undo(1) * 100 + x.count(12), 920);
        Check.refused("more than can be", x, () -> x.undo(10), -3);
        Check.due("nine", x.undo(9) * 100 + x.count(12), 11);
        Check.refused("none can be", x, () -> x.undo(1), -3);
        for (int c = 1; c <= 10; c++) {
            x.cap(50 + c);
        }
        Check.due("ten at once", x.undo(10) * 100 + x.count(12), 11);
    }

    private static void image() {
        Check.says(50, "An IMAGE is made: 0. -2.");
        GroupLimits x = TermsBack.busy();
        for (int i : new int[] {-1, 2, FAR[0], FAR[1]}) {
            Check.refused("none such", x, () -> x.image(i), -2);
        }
        Check.told("image 0", x, () -> x.image(0), 0);
        Check.refused("the other wasn't made", x, () -> x.restore(1), -6);
        Check.told("image 1", x, () -> x.image(1), 0);
        Check.told("again", x, () -> x.image(1), 0);
        long first = Check.seen(x);
        x.tick(9);
        x.undo(1);
        Check.due("undo() leaves it", x.restore(0), 0);
        x.tick(9);
        long second = Check.seen(x);
        x.image(0);
        x.kill(0);
        Check.due("the other is still what it was", x.restore(1), 0);
        Check.due("so", Check.seen(x) == first);
        Check.due("the one is the newer", x.restore(0), 0);
        Check.due("so", Check.seen(x) == second);
    }

    private static void restore() {
        Check.says(51, "All that is in an IMAGE is as it was: 0. -2; -6: none was made.");
        GroupLimits x = TermsBack.busy();
        for (int i : new int[] {-1, 2, FAR[0], FAR[1]}) {
            Check.refused("none such", x, () -> x.restore(i), -2);
        }
        Check.refused("none was made", x, () -> x.restore(0), -6);
        Check.refused("none was made", x, () -> x.restore(1), -6);
        GroupLimits empty = new GroupLimits();
        empty.image(1);
        long nothing = Check.seen(empty);
        empty.group(0);
        empty.process(1, 3);
        empty.charge(0, CACHE, 9);
        empty.work(0, 50);
        empty.batch(2);
        empty.cap(2);
        empty.swap(2);
        empty.trigger(1, 1, 1);
        empty.tick(3);
        Check.due("to the beginning", empty.restore(1), 0);
        Check.due("so", Check.seen(empty) == nothing);
        Check.due("a GROUP is as at first", empty.group(0) * 10 + empty.of(1, 15), 10);
        Check.due("restored, it goes on from there", empty.tick(1), 1);
        long seen = Check.seen(x);
        x.image(0);
        x.tick(40);
        x.restore(0);
        Check.due("all", Check.seen(x) == seen);
        Check.due("what comes next is the same", afterwards(x), afterwards(TermsBack.busy()));
    }

    /** What some calls tell that depend on windows, periods and stalls. */
    private static int afterwards(GroupLimits x) {
        int sum = x.tick(2) + x.of(1, 15) * 3 + x.pressure(1, 0, 4) * 5 + x.fired(0, 0) * 7 + x.idle() * 11;
        return sum + x.charge(0, ANON, 30) * 13 + x.count(3) * 17 + x.proc(0, 4) * 19 + x.average(1, 0, 1) * 23;
    }

    private static void count() {
        Check.says(52, "0 GROUPS (bits), 1 PROCESSES (bits), 2 TICKS, 3 TOTAL of the ROOT, 4 BATCH, 5 TRIGGERS, 6 calls that can be"
            + " UNDONE, 7 all ANON, 8 all CACHE, 9 all STOCKS, 10 SWAP, 11 OUT of the ROOT, 12 CAP. NONE for others.");
        GroupLimits x = Check.small();
        x.kill(0);
        x.batch(3);
        x.swap(20);
        x.cap(30);
        x.charge(1, ANON, 9);
        x.charge(1, CACHE, 2);
        x.take(2, 6);
        x.charge(2, CACHE, 4);
        x.charge(2, CACHE, 1);
        x.charge(1, ANON, 1);
        x.trigger(0, 1, 1);
        x.trigger(0, 1, 1);
        x.trigger(0, 1, 1);
        x.tick(6);
        x.undo(1);
        x.tick(5);
        x.undo(2);
        // 1 has 7 ANON, 3 SWAPPED; 2 has 5 CACHE; STOCKS of 2 in 2 and 2 in 3.
        int[] is = {15, 6, 0, 16, 3, 2, 8, 7, 5, 4, 20, 3, 30};
        for (int what = 0; what < is.length; what++) {
            int row = what;
            Check.told("count " + what, x, () -> x.count(row), is[what]);
        }
        for (int what : new int[] {-1, 13, FAR[0], FAR[1]}) {
            Check.told("NONE for others", x, () -> x.count(what), -1);
        }
        for (int g = 4; g < 12; g++) {
            x.group(0);
        }
        for (int p = 0; p < 14; p++) {
            x.process(0, 0);
        }
        Check.due("all GROUPS", x.count(0), 0xFFF);
        Check.due("all PROCESSES", x.count(1), 0xFFFF);
    }
}
