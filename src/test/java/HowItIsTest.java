/** Promises 21 to 35: how it is. */
public final class HowItIsTest {
    private static final int[] WRONG = {-1, 4, 12, 16, Integer.MIN_VALUE, Integer.MAX_VALUE};

    private HowItIsTest() {
    }

    private static void due(int promise, String call, int got, int want) {
        Check.due(promise, call, got, want);
    }

    public static void main(String[] args) {
        of();
        proc();
        share();
        shareByLevels();
        spare();
        next();
        bits();
        pressure();
        average();
        nobodyStalls();
        worst();
        units();
        fired();
        events();
        Check.end("how it is");
    }

    private static void of() {
        GroupLimits x = Check.small();
        int[] v = {5, 6, 70, 80, 1, 90, 7, 50, 9};
        for (int what = 0; what < v.length; what++) {
            x.limit(1, what, v[what]);
        }
        x.charge(0, 0, 9);
        x.charge(0, 1, 4);
        x.charge(1, 1, 8);
        x.swap(20);
        x.limit(1, 0, 0);
        x.limit(1, 1, 0);
        x.limit(2, 1, 8);
        x.take(1, 6);
        x.limit(2, 1, 0);
        x.batch(4);
        x.charge(1, 0, 1);
        x.work(1, 3);
        x.tick(1);
        int[] one = {0, 0, 70, 80, 1, 90, 7, 50, 9, 0, 7, 0, 19, 0, 2, 3};
        int[] two = {0, 0, 999, 999, 0, 999, 1, 99, 16, 1, 9, 3, 12, 8, 0, 3};
        for (int what = 0; what < 16; what++) {
            due(21, "of 1, " + what, x.of(1, what), one[what]);
            due(21, "of 2, " + what, x.of(2, what), two[what]);
        }
        for (int what : new int[] {-1, 16, Integer.MAX_VALUE, Integer.MIN_VALUE}) {
            due(21, "what", x.of(1, what), -2);
        }
        for (int g : WRONG) {
            due(21, "of none", x.of(g, 0), -2);
        }
        x.tick(4);
        due(21, "got in the period of the latest tick", x.of(1, 15), 3);
        x.tick(1);
        due(21, "got in the next", x.of(1, 15), 0);
        due(21, "got by the root", x.of(0, 15), 0);
    }

    private static void proc() {
        GroupLimits x = Check.small();
        x.process(3, -4);
        x.swap(99);
        x.charge(3, 0, 8);
        x.charge(3, 1, 5);
        x.take(3, 7);
        x.work(3, 15);
        x.tick(1);
        x.use(3, 1);
        int[] is = {3, -4, 7, 0, 1, 8 - 40, 1, 5, 10};
        for (int what = 0; what < is.length; what++) {
            due(22, "proc " + what, x.proc(3, what), is[what]);
        }
        for (int what : new int[] {-1, 9, Integer.MAX_VALUE, Integer.MIN_VALUE}) {
            due(22, "what", x.proc(3, what), -99);
        }
        for (int p : WRONG) {
            due(22, "none such", x.proc(p, 0), -99);
        }
    }

    private static void share() {
        GroupLimits x = Check.small();
        x.group(1);
        x.group(2);
        x.process(4, 0);
        x.process(5, 0);
        x.charge(1, 1, 10);
        x.charge(3, 1, 20);
        x.charge(4, 1, 7);
        // TOTAL: 1 37, 2 17, 4 20, 5 7.
        x.limit(1, 1, 20);
        x.limit(2, 1, 15);
        x.limit(4, 1, 30);
        x.limit(5, 1, 9);
        due(23, "a child of r has its claim", x.share(1, 0, 0), 20);
        due(23, "claims are more: cut", x.share(2, 0, 0), 8);
        due(23, "claims are more: cut", x.share(4, 0, 0), 11);
        due(23, "a claim is no more than TOTAL", x.share(5, 0, 0), 7);
        due(23, "below 1", x.share(2, 1, 0), 15);
        due(23, "below 1", x.share(4, 1, 0), 20);
        due(23, "below 1", x.share(5, 1, 0), 7);
        due(23, "below 2", x.share(5, 2, 0), 7);
        x.limit(1, 1, 5);
        due(23, "5 by 35", x.share(2, 0, 0), 2);
        due(23, "2 by 7", x.share(5, 0, 0), 2);
        x.limit(1, 1, 0);
        due(23, "none to share", x.share(5, 0, 0), 0);
        due(23, "by MIN", x.share(2, 1, 1), 0);
        due(23, "the LEVEL", x.share(2, 1, 2), -3);
        due(23, "the LEVEL", x.share(2, 1, -1), -3);
        due(23, "r itself", x.share(1, 1, 0), -2);
        due(23, "r itself ahead of the LEVEL", x.share(1, 1, 2), -2);
        due(23, "not below r", x.share(1, 2, 0), -2);
        due(23, "not below r", x.share(3, 1, 2), -2);
        for (int g : new int[] {-1, 6, 12, Integer.MAX_VALUE, Integer.MIN_VALUE}) {
            due(23, "none such", x.share(g, 0, 0), -2);
            due(23, "none such", x.share(1, g, 0), -2);
        }
    }

    private static void shareByLevels() {
        GroupLimits x = Check.small();
        x.limit(2, 0, 4);
        x.limit(2, 1, 6);
        x.limit(1, 0, 3);
        x.limit(1, 1, 20);
        due(23, "nothing is used", x.share(2, 0, 0), 0);
        x.charge(1, 0, 9);
        due(23, "by LOW", x.share(2, 0, 0), 6);
        due(23, "by MIN", x.share(2, 0, 1), 3);
        due(23, "by MIN below 1", x.share(2, 1, 1), 4);
    }

    private static void spare() {
        GroupLimits x = Check.small();
        x.charge(0, 1, 6);
        x.charge(1, 1, 10);
        x.charge(1, 0, 7);
        x.limit(2, 1, 12);
        x.limit(1, 1, 15);
        // TOTAL: 1 23, 2 17. Below the root 1 has a share of 15, 2 of 12.
        due(24, "by its own protection", x.spare(2, 1, 0, 1), 5);
        due(24, "below the root", x.spare(2, 0, 0, 1), 5);
        due(24, "of its parent", x.spare(1, 0, 0, 1), 6);
        due(24, "by MIN", x.spare(2, 1, 1, 1), 10);
        due(24, "of r itself", x.spare(2, 2, 0, 1), 10);
        due(24, "of r itself", x.spare(1, 1, 0, 1), 6);
        x.limit(1, 1, 20);
        due(24, "by protection of the parent", x.spare(2, 0, 0, 1), 3);
        due(24, "by protection of the parent", x.spare(1, 0, 0, 1), 3);
        due(24, "anon without swap", x.spare(2, 2, 0, 0), 0);
        x.swap(9);
        due(24, "anon", x.spare(2, 2, 0, 0), 7);
        due(24, "by protection", x.spare(2, 1, 0, 0), 5);
        x.swap(4);
        due(24, "by SWAP", x.spare(2, 1, 0, 0), 4);
        x.limit(0, 5, 3);
        due(24, "by SWAPMAX above r", x.spare(2, 2, 0, 0), 3);
        x.limit(2, 5, 2);
        due(24, "by SWAPMAX", x.spare(2, 2, 0, 0), 2);
        x.limit(2, 1, 0);
        x.take(2, 12);
        due(24, "SWAPMAX is full", x.spare(2, 2, 0, 0), 0);
        x.limit(2, 5, 1);
        due(24, "0 at least", x.spare(2, 2, 0, 0), 0);
        due(24, "not below r", x.spare(1, 2, 0, 0), -2);
        due(24, "not below r", x.spare(3, 1, 5, 5), -2);
        due(24, "the LEVEL", x.spare(2, 1, 2, 0), -3);
        due(24, "the LEVEL", x.spare(2, 1, -1, 0), -3);
        due(24, "the kind", x.spare(2, 1, 0, 2), -3);
        due(24, "the kind", x.spare(2, 1, 0, -1), -3);
        for (int g : WRONG) {
            due(24, "none such", x.spare(g, 0, 0, 0), -2);
            due(24, "none such", x.spare(1, g, 0, 0), -2);
        }
    }

    private static void next() {
        GroupLimits x = Check.small();
        due(25, "none has spare", x.next(0, 0, 1), -1);
        x.charge(0, 1, 6);
        x.charge(1, 1, 6);
        x.charge(2, 1, 7);
        due(25, "the most", x.next(0, 0, 1), 3);
        x.limit(3, 1, 2);
        due(25, "of like ones the lowest", x.next(0, 0, 1), 1);
        due(25, "by MIN", x.next(0, 1, 1), 3);
        x.limit(1, 1, 12);
        due(25, "protected", x.next(0, 0, 1), 3);
        due(25, "below 1", x.next(1, 0, 1), 1);
        x.limit(3, 1, 7);
        due(25, "none has spare", x.next(0, 0, 1), -1);
        due(25, "no anon", x.next(0, 0, 0), -1);
        x.charge(1, 0, 1);
        due(25, "no swap", x.next(0, 0, 0), -1);
        x.swap(1);
        due(25, "swap", x.next(0, 0, 0), 2);
        due(25, "the LEVEL", x.next(0, 2, 0), -3);
        due(25, "the LEVEL", x.next(0, -1, 0), -3);
        due(25, "the kind", x.next(0, 0, 2), -3);
        due(25, "the kind", x.next(0, 0, -1), -3);
        for (int g : WRONG) {
            due(25, "none such", x.next(g, 2, 2), -2);
        }
    }

    private static void bits() {
        GroupLimits x = Check.small();
        x.group(2);
        due(26, "below", x.below(0), 31);
        due(26, "below", x.below(1), 22);
        due(26, "below", x.below(2), 20);
        due(26, "below", x.below(3), 8);
        due(27, "procs", x.procs(0), 7);
        due(27, "procs", x.procs(1), 3);
        due(27, "procs", x.procs(2), 2);
        due(27, "procs", x.procs(4), 0);
        due(28, "common", x.common(4, 3), 0);
        due(28, "common", x.common(4, 1), 1);
        due(28, "common", x.common(1, 4), 1);
        due(28, "common", x.common(2, 2), 2);
        due(28, "common", x.common(0, 4), 0);
        x.group(1);
        due(28, "common", x.common(4, 5), 1);
        for (int g : new int[] {-1, 6, 12, Integer.MAX_VALUE, Integer.MIN_VALUE}) {
            due(26, "below none", x.below(g), -2);
            due(27, "procs of none", x.procs(g), -2);
            due(28, "common of none", x.common(g, 0), -2);
            due(28, "common of none", x.common(0, g), -2);
        }
    }

    private static void pressure() {
        GroupLimits x = Check.small();
        x.limit(2, 2, 0);
        x.charge(1, 0, 12);
        x.work(2, 35);
        x.work(1, 5);
        x.tick(2);
        // 2 is stalled for three ticks; 3 has work left behind three, 2 behind none that it could do.
        due(29, "SOME", x.pressure(1, 0, 40), 2);
        due(29, "not FULL", x.pressure(1, 1, 40), 0);
        due(29, "FULL", x.pressure(2, 1, 40), 2);
        due(29, "FULL of the root", x.pressure(0, 1, 40), 0);
        due(29, "WORK", x.pressure(3, 2, 40), 2);
        due(29, "no WORK of who is stalled", x.pressure(2, 2, 40), 0);
        due(29, "of the root", x.pressure(0, 2, 40), 2);
        due(29, "of others", x.pressure(3, 0, 40), 0);
        due(29, "of the latest alone", x.pressure(2, 0, 1), 1);
        x.tick(4);
        due(29, "of the latest alone", x.pressure(2, 0, 1), 0);
        due(29, "SOME", x.pressure(2, 0, 40), 3);
        due(29, "of the latest 4", x.pressure(2, 0, 4), 1);
        due(29, "of the latest 3", x.pressure(2, 0, 3), 0);
        due(29, "WORK", x.pressure(3, 2, 40), 3);
        due(31, "stalls", x.stalls(2, 0), 3);
        x.tick(35);
        due(29, "of the latest 40", x.pressure(2, 0, 40), 2);
        due(29, "of the latest 39", x.pressure(2, 0, 39), 1);
        due(31, "ever", x.stalls(2, 0), 3);
        due(31, "FULL", x.stalls(2, 1), 3);
        due(31, "WORK", x.stalls(3, 2), 3);
        due(31, "FULL of one without processes", x.stalls(0, 1), 0);
        for (int kind : new int[] {-1, 3, Integer.MAX_VALUE, Integer.MIN_VALUE}) {
            due(29, "kind", x.pressure(1, kind, 1), -3);
            due(30, "kind", x.average(1, kind, 0), -3);
            due(31, "kind", x.stalls(1, kind), -3);
        }
        for (int w : new int[] {0, -1, 41, Integer.MAX_VALUE, Integer.MIN_VALUE}) {
            due(29, "w", x.pressure(1, 0, w), -3);
        }
        for (int g : WRONG) {
            due(29, "none such", x.pressure(g, 3, 0), -2);
            due(30, "none such", x.average(g, 3, 3), -2);
            due(31, "none such", x.stalls(g, 3), -2);
        }
    }

    private static void average() {
        GroupLimits x = Check.small();
        x.limit(2, 2, 0);
        x.charge(1, 0, 8);
        x.work(2, 15);
        x.tick(1);
        int[] one = {200, 100, 33};
        int[] two = {360, 190, 65};
        int[] three = {288, 171, 62};
        for (int i = 0; i < 3; i++) {
            due(30, "SOME", x.average(2, 0, i), one[i]);
            due(30, "FULL", x.average(2, 1, i), one[i]);
            due(30, "SOME of the parent", x.average(1, 0, i), one[i]);
            due(30, "FULL of the parent", x.average(1, 1, i), 0);
            due(30, "WORK", x.average(3, 2, i), one[i]);
            due(30, "no WORK", x.average(2, 2, i), 0);
        }
        x.tick(1);
        for (int i = 0; i < 3; i++) {
            due(30, "two ticks", x.average(2, 0, i), two[i]);
        }
        x.tick(1);
        for (int i = 0; i < 3; i++) {
            due(30, "three ticks", x.average(2, 0, i), three[i]);
        }
        for (int i : new int[] {-1, 3, Integer.MAX_VALUE, Integer.MIN_VALUE}) {
            due(30, "i", x.average(2, 0, i), -3);
        }
        x.tick(40);
        for (int i = 0; i < 3; i++) {
            due(30, "it fades", x.average(2, 0, i), new int[] {0, 0, 5}[i]);
        }
    }

    private static void nobodyStalls() {
        GroupLimits x = Check.small();
        x.work(2, 11);
        x.tick(1);
        for (int g = 0; g < 4; g++) {
            due(29, "SOME", x.pressure(g, 0, 5), 0);
            due(29, "FULL", x.pressure(g, 1, 5), 0);
            due(29, "one unit is left", x.pressure(g, 2, 5), g == 0 || g == 3 ? 1 : 0);
        }
        x.tick(1);
        for (int g = 0; g < 4; g++) {
            due(29, "nothing is left", x.pressure(g, 2, 1), 0);
        }
        GroupLimits y = Check.small();
        y.limit(0, 2, 0);
        y.charge(0, 0, 1);
        y.charge(1, 0, 1);
        y.charge(2, 0, 1);
        y.tick(1);
        due(29, "FULL of the root", y.pressure(0, 1, 1), 1);
        y.kill(0);
        y.kill(1);
        y.kill(2);
        y.tick(1);
        due(29, "not FULL without processes", y.pressure(0, 1, 1), 0);
    }

    private static void worst() {
        GroupLimits x = Check.small();
        due(32, "none was", x.worst(), -1);
        x.limit(3, 2, 0);
        x.limit(2, 2, 0);
        x.charge(2, 0, 4);
        x.tick(1);
        due(32, "the only one but the root", x.worst(), 3);
        x.charge(1, 0, 4);
        x.tick(1);
        due(32, "of like ones the lowest", x.worst(), 1);
        x.uncharge(2, 0, 4);
        x.charge(2, 0, 4);
        x.tick(1);
        due(32, "the most", x.worst(), 3);
        x.tick(8);
        due(32, "of the latest 10: one each", x.worst(), 1);
        x.tick(1);
        due(32, "of the latest 10", x.worst(), 3);
        x.tick(40);
        due(32, "none of the latest 10", x.worst(), -1);
    }

    private static void units() {
        GroupLimits x = Check.small();
        due(33, "nobody asks", x.units(0, 0), 0);
        x.limit(3, 6, 4);
        x.work(0, 9);
        x.work(1, 9);
        x.work(2, 2);
        x.process(0, 0);
        x.work(3, 1);
        // Round by round: 10 among 1, 3 and process 3 by 1, 4, 1: 1, 2, 1; then 6 left go to 1.
        due(33, "the root", x.units(0, 0), 10);
        due(33, "group 1", x.units(1, 0), 7);
        due(33, "group 3", x.units(3, 0), 2);
        due(33, "process 3", x.units(3, 1), 1);
        // 7 among group 2 and process 0: 3 each, the last to the first in order.
        due(33, "group 2", x.units(2, 0), 4);
        due(33, "process 0", x.units(0, 1), 3);
        due(33, "process 1", x.units(1, 1), 4);
        due(33, "nothing was done", x.proc(1, 8), 0);
        x.limit(2, 7, 3);
        due(33, "QUOTA", x.units(2, 0), 3);
        due(33, "the others have it", x.units(0, 1), 4);
        x.tick(1);
        due(33, "QUOTA is used up", x.units(2, 0), 0);
        x.tick(4);
        due(33, "a new period", x.units(2, 0), 3);
        unitsOneByOne();
        due(33, "what", x.units(1, 2), -2);
        due(33, "what", x.units(1, -1), -2);
        for (int k : new int[] {-1, 4, 12, 16, Integer.MAX_VALUE, Integer.MIN_VALUE}) {
            due(33, "no group", x.units(k, 0), -2);
            due(33, "no process", x.units(k, 1), -2);
        }
    }

    /** When there are fewer units than members, they go one by one to the first. */
    private static void unitsOneByOne() {
        GroupLimits y = new GroupLimits();
        for (int p = 0; p < 4; p++) {
            y.process(0, 0);
            y.work(p, p == 0 ? 1 : 5);
        }
        y.cap(3);
        due(33, "it asks for one", y.units(0, 1), 1);
        due(33, "the next has the others", y.units(1, 1), 2);
        due(33, "none is left", y.units(2, 1), 0);
        y.cap(9);
        // 2 each, but 1 for the first; of 2 left 0 each, one by one to the second.
        due(33, "what it asks for", y.units(0, 1), 1);
        due(33, "two more", y.units(1, 1), 4);
        due(33, "by the first round", y.units(3, 1), 2);
        y.cap(15);
        // 3 each, but 1; of 5 left 1 each; of 2 left one by one to the second, who asks for one only; then to the third.
        due(33, "what it asks for", y.units(1, 1), 5);
        due(33, "what it asks for", y.units(2, 1), 5);
        due(33, "by two rounds", y.units(3, 1), 4);
        due(33, "all that is asked for", sumOfUnits(y, 99), 16);
        GroupLimits z = new GroupLimits();
        int[] todo = {5, 1, 1, 99};
        int[] gets = {5, 1, 1, 9};
        for (int p = 0; p < 4; p++) {
            z.process(0, 0);
            z.work(p, todo[p]);
        }
        z.cap(16);
        // 4 each, but 1 for two of them; of 6 left 3 each, but the first asks for one more only; then 2 for the last.
        for (int p = 0; p < 4; p++) {
            due(33, "in rounds", z.units(p, 1), gets[p]);
        }
    }

    private static int sumOfUnits(GroupLimits x, int cap) {
        x.cap(cap);
        return x.units(0, 1) + x.units(1, 1) + x.units(2, 1) + x.units(3, 1);
    }

    private static void fired() {
        GroupLimits x = Check.small();
        due(34, "none", x.fired(0, 0), -2);
        x.trigger(1, 1, 1);
        x.trigger(3, 2, 2);
        due(34, "never", x.fired(0, 0), 0);
        due(34, "its group", x.fired(0, 1), 1);
        due(34, "its group", x.fired(1, 1), 3);
        x.limit(1, 2, 0);
        x.charge(0, 0, 4);
        x.tick(2);
        x.charge(0, 0, 4);
        x.tick(3);
        due(34, "twice", x.fired(0, 0), 2);
        for (int i : new int[] {-1, 2, 3, 4, Integer.MAX_VALUE, Integer.MIN_VALUE}) {
            due(34, "none such", x.fired(i, 0), -2);
        }
        for (int what : new int[] {-1, 2, Integer.MAX_VALUE, Integer.MIN_VALUE}) {
            due(34, "what", x.fired(0, what), -2);
        }
    }

    private static void events() {
        GroupLimits x = Check.small();
        x.limit(1, 3, 10);
        x.limit(1, 2, 5);
        x.charge(0, 0, 8);
        x.charge(1, 1, 1);
        x.charge(0, 0, 3);
        // HIGH at 8 and at 8 + 1 (its cache goes), MAX at 8 + 3 (nothing to take; then the process itself dies).
        due(35, "LOW", x.events(1, 0), 3);
        due(35, "HIGH", x.events(1, 1), 2);
        due(35, "MAX", x.events(1, 2), 1);
        due(35, "KILL", x.events(1, 3), 1);
        due(35, "of the parent", x.events(0, 0) + x.events(0, 1) + x.events(0, 2) + x.events(0, 3), 0);
        for (int what : new int[] {-1, 4, Integer.MAX_VALUE, Integer.MIN_VALUE}) {
            due(35, "what", x.events(1, what), -2);
        }
        for (int g : WRONG) {
            due(35, "none such", x.events(g, 0), -2);
        }
    }
}
