/** Promises 36 to 48: what would come of a call, the state staying as it is. */
public final class OnPaperTest {
    private static final int[] WRONG = {-1, 4, 12, 16, Integer.MIN_VALUE, Integer.MAX_VALUE};

    private OnPaperTest() {
    }

    private static void due(int promise, String call, int got, int want) {
        Check.due(promise, call, got, want);
    }

    public static void main(String[] args) {
        victim();
        dying();
        room();
        deaths();
        taken();
        place();
        placeWithinLimits();
        due();
        idle();
        weigh();
        pressed();
        would();
        burst();
        burstBySteps();
        stalled();
        nothingChanges();
        Check.end("on paper");
    }

    private static void victim() {
        GroupLimits x = Check.small();
        due(36, "of like ones the lowest", x.victim(0), 0);
        x.charge(2, 0, 5);
        due(36, "the most", x.victim(0), 2);
        due(36, "below 1", x.victim(1), 0);
        x.charge(1, 1, 3);
        due(36, "cache counts", x.victim(1), 1);
        x.process(1, 1);
        due(36, "ADJ counts", x.victim(0), 3);
        x.process(3, -10);
        x.charge(4, 0, 99);
        x.charge(4, 0, 99);
        due(36, "not ADJ -10", x.victim(3), 2);
        x.kill(2);
        due(36, "none", x.victim(3), -1);
        x.swap(99);
        x.charge(0, 0, 9);
        x.take(1, 12);
        due(36, "swapped counts", x.victim(1), 3);
        x.charge(0, 0, 2);
        due(36, "swapped counts", x.victim(1), 0);
        x.process(2, -9);
        x.kill(0);
        x.kill(1);
        x.kill(3);
        due(36, "below 0, too", x.victim(1), 2);
        for (int g : WRONG) {
            due(36, "none such", x.victim(g), -2);
        }
    }

    private static void dying() {
        GroupLimits x = Check.small();
        x.process(2, 3);
        x.process(2, -10);
        x.process(1, -9);
        due(37, "alone", x.dying(0), 8);
        x.limit(2, 4, 1);
        due(37, "its whole group", x.dying(0), 10);
        due(37, "r itself whole", x.dying(2), 10);
        x.limit(1, 4, 1);
        due(37, "the highest", x.dying(0), 43);
        due(37, "below r", x.dying(2), 10);
        x.limit(2, 4, 0);
        due(37, "not above r", x.dying(2), 8);
        x.limit(0, 4, 1);
        due(37, "the root", x.dying(0), 47);
        x.kill(2);
        due(37, "nobody", x.dying(3), 0);
        GroupLimits y = new GroupLimits();
        y.process(0, -10);
        y.process(0, 0);
        y.process(0, 0);
        y.limit(0, 4, 1);
        due(37, "but for ADJ -10", y.dying(0), 6);
        for (int g : WRONG) {
            due(37, "none such", x.dying(g), -2);
        }
    }

    private static void room() {
        GroupLimits x = Check.small();
        x.batch(4);
        due(38, "all", x.room(2), 999);
        x.charge(1, 0, 1);
        due(38, "with the stock", x.room(2), 998);
        due(38, "without that of others", x.room(1), 995);
        x.limit(1, 3, 10);
        due(38, "by the parent", x.room(2), 9);
        x.limit(2, 3, 4);
        due(38, "by itself", x.room(2), 3);
        due(38, "of the parent", x.room(1), 6);
        due(38, "of others", x.room(3), 995);
        for (int g : WRONG) {
            due(38, "none such", x.room(g), -2);
        }
    }

    private static void deaths() {
        GroupLimits x = Check.small();
        x.charge(0, 0, 10);
        x.charge(1, 0, 20);
        x.charge(1, 1, 5);
        due(39, "nothing", x.deaths(1, 35), 0);
        due(39, "by cache alone", x.deaths(1, 30), 0);
        due(39, "one", x.deaths(1, 29), 2);
        due(39, "one", x.deaths(1, 10), 2);
        due(39, "both", x.deaths(1, 9), 3);
        x.limit(1, 4, 1);
        due(39, "the whole group", x.deaths(1, 29), 3);
        x.process(1, -10);
        x.charge(3, 0, 1);
        due(39, "all but ADJ -10", x.deaths(1, 1), 3);
        due(39, "refused", x.deaths(1, 0), 0);
        due(39, "v", x.deaths(1, -1), -3);
        due(39, "v", x.deaths(1, 1000), -3);
        for (int g : WRONG) {
            due(39, "none such", x.deaths(g, 1000), -2);
        }
    }

    private static void taken() {
        GroupLimits x = Check.small();
        x.batch(4);
        x.charge(0, 1, 9);
        x.charge(1, 1, 7);
        x.charge(1, 0, 3);
        x.charge(2, 1, 9);
        // The stock of 2 is 1: of 10 pages below 1 that one, then 4 of 1, 4 of 2, 1 of 1.
        due(40, "of its processes", x.taken(1, 1, 10, 0), 5);
        due(40, "of its processes", x.taken(2, 1, 10, 0), 4);
        due(40, "and its stock", x.taken(2, 1, 10, 1), 5);
        due(40, "it has no stock", x.taken(1, 1, 10, 1), 5);
        due(40, "the stock alone", x.taken(2, 0, 1, 0), 0);
        due(40, "the stock alone", x.taken(2, 0, 1, 1), 1);
        due(40, "of r itself", x.taken(2, 2, 999, 1), 8);
        x.swap(2);
        due(40, "anon, too", x.taken(2, 2, 999, 1), 10);
        due(40, "not below", x.taken(1, 2, 5, 0), -2);
        due(40, "not below", x.taken(3, 1, 0, 0), -2);
        due(40, "what", x.taken(2, 1, 5, 2), -2);
        due(40, "what ahead of n", x.taken(2, 1, 0, -1), -2);
        for (int n : new int[] {0, -1, 1000, Integer.MAX_VALUE, Integer.MIN_VALUE}) {
            due(40, "n", x.taken(2, 1, n, 0), -3);
        }
        for (int g : WRONG) {
            due(40, "none such", x.taken(g, 0, 1, 0), -2);
            due(40, "none such", x.taken(1, g, 1, 0), -2);
        }
    }

    private static void place() {
        GroupLimits x = Check.small();
        x.limit(0, 3, 100);
        x.charge(0, 0, 10);
        due(41, "of like ones the lowest", x.place(0), 0);
        x.limit(0, 3, 999);
        x.limit(3, 3, 60);
        x.limit(2, 3, 50);
        x.limit(1, 3, 70);
        // The root has 989 left, 1 has 60, with 2 below it 50 less its 10 pages.
        due(41, "the root", x.place(0), 0);
        x.move(0, 0);
        due(41, "to 1 with its pages, or 3", x.place(0), 1);
        x.limit(1, 3, 60);
        due(41, "of like ones the lowest", x.place(0), 1);
        x.limit(1, 3, 59);
        due(41, "the most", x.place(0), 3);
        x.charge(2, 0, 2);
        due(41, "pages of others", x.place(0), 1);
        x.limit(3, 3, 9);
        x.limit(2, 3, 9);
        x.limit(1, 3, 9);
        due(41, "none has room for its pages", x.place(0), -1);
        x.limit(2, 3, 10);
        due(41, "its parent has none", x.place(0), -1);
        x.limit(1, 3, 10);
        due(41, "just so many", x.place(0), 1);
        for (int p : WRONG) {
            due(41, "none such", x.place(p), -2);
        }
    }

    private static void placeWithinLimits() {
        GroupLimits x = Check.small();
        x.charge(0, 0, 10);
        x.move(0, 0);
        x.limit(1, 8, 1);
        due(41, "PIDS of 1 keeps it off 1 and 2", x.place(0), 3);
        x.swap(9);
        x.limit(3, 5, 2);
        x.take(0, 3);
        due(41, "SWAPMAX keeps it off 3", x.place(0), -1);
        x.limit(3, 5, 3);
        due(41, "just so many", x.place(0), 3);
        GroupLimits y = new GroupLimits();
        y.process(0, 0);
        due(41, "there is no other group", y.place(0), -1);
        y.group(0);
        due(41, "there is", y.place(0), 1);
        y.charge(0, 1, 1);
        y.group(0);
        y.process(1, 0);
        y.charge(1, 1, 1);
        y.limit(1, 3, 500);
        y.limit(2, 3, 498);
        // 1 has 496 left with 3 of its own stock; 2 has 498.
        due(41, "the stock isn't counted", y.place(0), 2);
    }

    private static void due() {
        GroupLimits x = Check.small();
        due(42, "the root", x.due(0), 10);
        due(42, "1 and 3 alike", x.due(1), 5);
        due(42, "1 and 3 alike", x.due(3), 5);
        due(42, "the one more to the child", x.due(2), 3);
        x.limit(3, 6, 4);
        due(42, "by weights", x.due(3), 8);
        due(42, "by weights", x.due(1), 2);
        x.limit(3, 7, 6);
        due(42, "by QUOTA", x.due(3), 6);
        due(42, "the others have it", x.due(1), 4);
        x.work(2, 6);
        x.tick(1);
        due(42, "what it got isn't looked at", x.due(3), 6);
        x.limit(3, 2, 0);
        x.charge(2, 0, 9);
        due(42, "stalls aren't looked at", x.due(3), 6);
        x.cap(99);
        due(42, "CAP", x.due(1), 93);
        x.kill(2);
        due(42, "no process", x.due(3), 0);
        for (int g : WRONG) {
            due(42, "none such", x.due(g), -2);
        }
    }

    private static void idle() {
        GroupLimits x = Check.small();
        due(43, "now", x.idle(), 0);
        x.work(0, 10);
        due(43, "one tick", x.idle(), 1);
        x.work(0, 1);
        due(43, "two ticks", x.idle(), 2);
        x.limit(1, 2, 0);
        x.charge(0, 0, 12);
        due(43, "behind its stall", x.idle(), 5);
        x.limit(1, 7, 3);
        due(43, "3 in each period of 5", x.idle(), 16);
        x.tick(1);
        due(43, "one tick later", x.idle(), 15);
        x.limit(1, 7, 0);
        due(43, "never", x.idle(), -1);
        GroupLimits y = Check.small();
        y.cap(1);
        y.work(0, 100);
        due(43, "in 100", y.idle(), 100);
        y.work(1, 1);
        due(43, "not in 100", y.idle(), -1);
        y.tick(1);
        due(43, "in 100", y.idle(), 100);
    }

    private static void weigh() {
        GroupLimits x = Check.small();
        x.work(0, 99);
        x.work(2, 99);
        due(44, "as it is", x.weigh(3, 5), 1);
        due(44, "7 of 10", x.weigh(3, 7), 2);
        due(44, "8 of 10", x.weigh(3, 8), 3);
        due(44, "9 of 10", x.weigh(3, 9), 5);
        due(44, "10 of 10", x.weigh(3, 10), -1);
        x.limit(3, 6, 9);
        due(44, "its own weight isn't looked at", x.weigh(3, 5), 1);
        due(44, "1 against 9", x.weigh(1, 5), 9);
        due(44, "2 by 1: no one shares with it", x.weigh(2, 1), -1);
        x.work(1, 3);
        due(44, "2 in 1", x.weigh(2, 1), 1);
        due(44, "the root", x.weigh(0, 1), -2);
        due(44, "the root", x.weigh(0, 0), -2);
        for (int u : new int[] {0, -1, 100, Integer.MAX_VALUE, Integer.MIN_VALUE}) {
            due(44, "u", x.weigh(1, u), -3);
        }
        for (int g : WRONG) {
            due(44, "none such", x.weigh(g, 0), -2);
        }
    }

    private static void pressed() {
        GroupLimits x = Check.small();
        x.batch(4);
        x.charge(0, 0, 9);
        x.charge(1, 1, 7);
        x.charge(1, 0, 3);
        due(45, "anon stays", x.pressed(1), 12);
        due(45, "anon stays", x.pressed(2), 3);
        x.swap(5);
        due(45, "but what swap takes", x.pressed(1), 7);
        x.limit(2, 0, 6);
        due(45, "LEVEL 0 looks at LOW alone", x.pressed(1), 7);
        x.limit(2, 1, 6);
        due(45, "LOW and MIN", x.pressed(1), 10);
        x.limit(2, 1, 99);
        due(45, "LOW is broken", x.pressed(1), 10);
        due(45, "by itself", x.pressed(2), 0);
        due(45, "of none", x.pressed(3), 0);
        for (int g : WRONG) {
            due(45, "none such", x.pressed(g), -2);
        }
    }

    private static void would() {
        GroupLimits x = Check.small();
        x.process(1, -10);
        x.limit(1, 3, 20);
        x.charge(0, 1, 5);
        x.charge(1, 0, 8);
        due(46, "fits", x.would(0, 0, 7), 0);
        due(46, "something is taken", x.would(0, 0, 8), 1);
        due(46, "something is taken", x.would(0, 0, 12), 1);
        due(46, "another dies", x.would(0, 0, 13), 2);
        due(46, "another dies", x.would(0, 0, 20), 2);
        due(46, "it dies", x.would(0, 0, 21), 3);
        due(46, "it dies", x.would(1, 1, 13), 3);
        due(46, "all others die", x.would(3, 0, 20), 2);
        due(46, "refused", x.would(3, 0, 21), -4);
        for (int p : new int[] {-1, 4, 16, Integer.MAX_VALUE, Integer.MIN_VALUE}) {
            due(46, "none such", x.would(p, 2, 0), -2);
            due(47, "none such", x.burst(p, 2), -2);
            due(48, "none such", x.stalled(p, 2, 0), -2);
        }
        for (int kind : new int[] {-1, 2, Integer.MAX_VALUE, Integer.MIN_VALUE}) {
            due(46, "kind", x.would(0, kind, 1), -3);
            due(47, "kind", x.burst(0, kind), -3);
            due(48, "kind", x.stalled(0, kind, 1), -3);
        }
        for (int n : new int[] {0, -1, 100, Integer.MAX_VALUE, Integer.MIN_VALUE}) {
            due(46, "n", x.would(0, 0, n), -3);
            due(48, "n", x.stalled(0, 0, n), -3);
        }
        due(47, "burst", x.burst(0, 0), 12);
        due(47, "burst", x.burst(3, 1), 12);
    }

    private static void burst() {
        GroupLimits x = Check.small();
        due(47, "99 at most", x.burst(0, 0), 99);
        x.limit(1, 3, 50);
        due(47, "MAX", x.burst(0, 1), 50);
        x.charge(0, 0, 50);
        due(47, "none", x.burst(0, 0), 0);
        x.swap(1);
        due(47, "one", x.burst(0, 0), 1);
        x.swap(8);
        due(47, "by swap", x.burst(0, 0), 8);
        due(47, "by swap of another", x.burst(1, 0), 8);
        due(47, "of another group", x.burst(2, 1), 99);
        GroupLimits y = new GroupLimits();
        y.group(0);
        y.process(1, 0);
        y.charge(0, 0, 1);
        y.limit(1, 3, 4);
        due(47, "by the stock", y.burst(0, 0), 3);
    }

    /** A greater charge may be told better than a lesser one, by shares that are cut: the greatest counts. */
    private static void burstBySteps() {
        GroupLimits x = Check.small();
        x.limit(1, 3, 30);
        x.charge(0, 1, 9);
        x.charge(1, 1, 9);
        x.limit(2, 0, 5);
        x.limit(2, 1, 9);
        int best = 0;
        for (int n = 1; n <= 99; n++) {
            int told = x.would(1, 0, n);
            best = told == 0 || told == 1 ? n : best;
        }
        due(47, "the greatest that would", x.burst(1, 0), best);
        due(47, "MIN stays below 1", x.burst(1, 0), 25);
    }

    private static void stalled() {
        GroupLimits x = Check.small();
        x.limit(1, 2, 10);
        x.limit(1, 3, 30);
        due(48, "no stall", x.stalled(0, 0, 10), 0);
        due(48, "one above", x.stalled(0, 0, 11), 1);
        due(48, "four above", x.stalled(0, 0, 14), 1);
        due(48, "five above", x.stalled(0, 0, 15), 2);
        due(48, "cache is taken", x.stalled(0, 1, 20), 0);
        x.charge(0, 0, 12);
        due(48, "it has one", x.stalled(0, 0, 1), 2);
        x.charge(1, 0, 18);
        due(48, "it dies", x.stalled(1, 0, 1), -1);
        due(48, "another dies", x.stalled(0, 0, 1), 2);
        x.process(1, -10);
        due(48, "refused", x.stalled(3, 0, 31), -1);
        x.limit(0, 2, 0);
        due(48, "20 at most", x.stalled(2, 0, 99), 20);
    }

    /** The calls on paper leave all as it was. */
    private static void nothingChanges() {
        GroupLimits x = Check.small();
        x.swap(20);
        x.limit(1, 3, 60);
        x.limit(1, 2, 50);
        for (int p = 0; p < 3; p++) {
            x.charge(p, p % 2, 25);
            x.work(p, 33);
        }
        x.image(0);
        int can = x.count(6);
        x.victim(0);
        x.dying(0);
        x.room(1);
        x.deaths(1, 0);
        x.taken(1, 0, 40, 1);
        x.place(0);
        x.due(1);
        x.idle();
        x.weigh(1, 9);
        x.pressed(0);
        x.would(0, 0, 99);
        x.burst(0, 0);
        x.stalled(0, 0, 50);
        x.units(1, 0);
        x.spare(2, 0, 0, 0);
        due(43, "nothing to undo", x.count(6), can);
        int[] told = {60, 3, 0, 75, 1, 0};
        int[] is = {x.of(1, 3), x.of(1, 9) + 3, x.events(1, 3), x.count(3), x.of(1, 6), x.count(2)};
        for (int i = 0; i < told.length; i++) {
            due(46, "on paper, state " + i, is[i], told[i]);
        }
        for (int p = 0; p < 3; p++) {
            due(46, "pages", x.proc(p, 2) + x.proc(p, 3), 25);
            due(43, "TODO", x.proc(p, 7), 33);
            due(48, "STALL", x.proc(p, 4), 0);
        }
    }
}
