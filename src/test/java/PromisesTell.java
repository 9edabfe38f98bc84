/** Promises 1 to 10: every sentence with its edges. */
final class PromisesTell {
    private static final int ANON = 0;
    private static final int CACHE = 1;
    private static final int[] FAR = {Integer.MIN_VALUE, Integer.MAX_VALUE};

    private PromisesTell() {
    }

    static void run() {
        aNewObject();
        group();
        remove();
        removeForgets();
        removeBringsTriggersForward();
        removeKeepsWindows();
        limitIsV();
        limitBelowWhatThereIs();
        limitTakes();
        limitKills();
        limitRefused();
        process();
        processFull();
        fork();
        charge();
        chargeRefused();
        uncharge();
        use();
        useTells();
        work();
    }

    private static void aNewObject() {
        Check.says(1, "The ROOT alone, no PROCESSES.");
        GroupLimits x = new GroupLimits();
        Check.due("GROUPS", x.count(0), 1);
        Check.due("PROCESSES", x.count(1), 0);
        Check.due("TICKS, TOTAL, TRIGGERS, calls", x.count(2) + x.count(3) + x.count(5) + x.count(6), 0);
        Check.due("pages", x.count(7) + x.count(8) + x.count(9) + x.count(11), 0);
        Check.refused("nothing can be undone", x, () -> x.undo(1), -3);
        Check.refused("no PROCESS", x, () -> x.kill(0), -2);
        Check.refused("no other GROUP", x, () -> x.remove(1), -2);
        GroupLimits y = new GroupLimits();
        y.group(0);
        Check.due("another object is another", x.count(0), 1);
    }

    private static void group() {
        Check.says(2, "A GROUP with a PARENT, all as at first: its number, the lowest that is free. -2; -4: there are 12.");
        GroupLimits x = new GroupLimits();
        Check.refused("no PARENT 1", x, () -> x.group(1), -2);
        Check.refused("no PARENT -1", x, () -> x.group(-1), -2);
        Check.refused("no PARENT 12", x, () -> x.group(12), -2);
        for (int far : FAR) {
            Check.refused("no PARENT", x, () -> x.group(far), -2);
        }
        for (int g = 1; g < 12; g++) {
            Check.due("the lowest that is free", x.group(g / 2), g);
            Check.due("its PARENT", x.of(g, 9), g / 2);
        }
        Check.refused("there are 12", x, () -> x.group(0), -4);
        x.remove(11);
        x.remove(7);
        Check.due("the lowest that is free", x.group(0), 7);
        Check.due("the next", x.group(7), 11);
        Check.refused("there are 12 again", x, () -> x.group(0), -4);
        x.undo(1);
        Check.due("with room again", x.group(0), 11);
        int[] v = {1, 2, 3, 4, 1, 5, 6, 7, 8};
        for (int what = 0; what < 9; what++) {
            x.limit(11, what, v[what]);
        }
        x.remove(11);
        x.group(0);
        int[] first = {0, 0, 999, 999, 0, 999, 1, 99, 16};
        for (int what = 0; what < 9; what++) {
            Check.due("as at first, " + what, x.of(11, what), first[what]);
        }
    }

    private static void remove() {
        Check.says(3, "A GROUP is no more (its STOCK is given back,");
        GroupLimits x = Check.small();
        x.batch(4);
        x.charge(1, ANON, 1);
        x.kill(1);
        Check.due("a STOCK is left", x.of(1, 12), 3);
        Check.due("remove", x.remove(2), 1);
        Check.due("it is no more", x.below(1), 2);
        Check.due("TOTAL of its PARENT", x.of(1, 12), 0);
        Check.due("TOTAL of the ROOT", x.of(0, 12), 0);
        Check.says(3, "its PARENT. -2; -5: the ROOT, it has CHILDREN, PROCESSES.");
        Check.refused("it is no more", x, () -> x.remove(2), -2);
        Check.refused("none such", x, () -> x.remove(-1), -2);
        Check.refused("none such", x, () -> x.remove(12), -2);
        for (int far : FAR) {
            Check.refused("none such", x, () -> x.remove(far), -2);
        }
        Check.refused("the ROOT", x, () -> x.remove(0), -5);
        Check.refused("it has a PROCESS", x, () -> x.remove(1), -5);
        x.kill(0);
        x.group(1);
        Check.refused("it has a CHILD", x, () -> x.remove(1), -5);
        Check.due("the CHILD", x.remove(2), 1);
        Check.due("then it", x.remove(1), 0);
        x.move(2, 0);
        Check.due("one of which the PROCESS has moved", x.remove(3), 0);
        Check.refused("the ROOT, alone", x, () -> x.remove(0), -5);
    }

    private static void removeForgets() {
        Check.says(3, "its events, TICKS that were STALLED are forgotten):");
        GroupLimits x = Check.small();
        x.limit(3, 2, 0);
        x.charge(2, ANON, 4);
        x.limit(3, 3, 4);
        x.work(2, 30);
        x.tick(3);
        x.charge(2, ANON, 1);
        Check.due("events", x.events(3, 0) * 1000 + x.events(3, 1) * 100 + x.events(3, 2) * 10 + x.events(3, 3), 2111);
        Check.due("STALLED", x.stalls(3, 0) * 100 + x.stalls(3, 1) * 10 + x.stalls(3, 2), 112);
        Check.due("worst", x.worst(), 3);
        x.remove(3);
        Check.due("worst is none", x.worst(), -1);
        Check.due("the number again", x.group(1), 3);
        for (int i = 0; i < 9; i++) {
            Check.due("events", x.events(3, i % 4), 0);
            Check.due("pressure", x.pressure(3, i % 3, 40), 0);
            Check.due("stalls", x.stalls(3, i % 3), 0);
            Check.due("average", x.average(3, i % 3, i / 3), 0);
        }
        Check.due("what it got", x.of(3, 15), 0);
        Check.due("all limits as at first", x.of(3, 2) + x.of(3, 3), 1998);
        Check.due("those of the ROOT stay", x.stalls(0, 0), 1);
    }

    private static void removeBringsTriggersForward() {
        Check.says(3, "TRIGGERS of it are none any more, others come forward in order;");
        GroupLimits x = Check.small();
        x.group(0);
        int[] groups = {4, 1, 4, 3};
        for (int g : groups) {
            x.trigger(g, 1, 1);
        }
        x.limit(3, 2, 0);
        x.charge(2, ANON, 4);
        x.tick(1);
        Check.refused("there are 4", x, () -> x.trigger(0, 1, 1), -4);
        x.remove(4);
        Check.due("two are left", x.count(5), 2);
        Check.due("in order", x.fired(0, 1) * 10 + x.fired(1, 1), 13);
        Check.due("as often as they FIRED", x.fired(0, 0) * 10 + x.fired(1, 0), 1);
        Check.due("2 is none", x.fired(2, 1), -2);
        Check.due("there is room", x.trigger(0, 1, 1), 2);
        x.group(0);
        Check.due("the number again, without TRIGGERS", x.count(5), 3);
    }

    private static void removeKeepsWindows() {
        GroupLimits x = Check.small();
        x.group(0);
        x.trigger(3, 1, 1);
        x.trigger(4, 1, 1);
        x.trigger(3, 4, 2);
        x.trigger(3, 2, 2);
        x.remove(4);
        x.limit(3, 2, 0);
        x.charge(2, ANON, 4);
        x.tick(2);
        Check.due("1 of 1", x.fired(0, 0) * 100 + x.fired(1, 0) * 10 + x.fired(2, 0), 100);
        x.charge(2, ANON, 4);
        x.tick(1);
        // 3 was stalled in the first TICK and in the third, and is in the fourth.
        Check.due("1 of 1 twice, 2 of 4", x.fired(0, 0) * 100 + x.fired(1, 0) * 10 + x.fired(2, 0), 210);
        x.tick(1);
        Check.due("2 of 2, too", x.fired(0, 0) * 100 + x.fired(1, 0) * 10 + x.fired(2, 0), 211);
    }

    private static void limitIsV() {
        Check.says(4, "What 0 MIN, 1 LOW, 2 HIGH, 3 MAX, 4 WHOLE, 5 SWAPMAX, 6 WEIGHT, 7 QUOTA, 8 PIDS is v: TOTAL then.");
        GroupLimits x = Check.flat(1);
        x.charge(0, ANON, 7);
        int[] v = {1, 2, 30, 40, 1, 5, 6, 70, 8};
        for (int what = 0; what < 9; what++) {
            Check.due("limit: TOTAL", x.limit(1, what, v[what]), 7);
        }
        for (int what = 0; what < 9; what++) {
            Check.due("of " + what, x.of(1, what), v[what]);
        }
        Check.due("of the ROOT, too", x.limit(0, 6, 9), 7);
        Check.due("the other's stays", x.of(1, 6), 6);
        Check.says(4, "-2: the GROUP, what; -3: v;");
        Check.refused("no GROUP", x, () -> x.limit(2, 0, 0), -2);
        Check.refused("no GROUP", x, () -> x.limit(-1, 0, 0), -2);
        Check.refused("no GROUP", x, () -> x.limit(12, 0, 0), -2);
        Check.refused("no such what", x, () -> x.limit(1, -1, 1), -2);
        Check.refused("no such what", x, () -> x.limit(1, 9, 1), -2);
        for (int far : FAR) {
            Check.refused("no GROUP", x, () -> x.limit(far, 0, 0), -2);
            Check.refused("no such what", x, () -> x.limit(1, far, 1), -2);
            for (int what = 0; what < 9; what++) {
                int row = what;
                Check.refused("no such v", x, () -> x.limit(1, row, far), -3);
            }
        }
    }

    private static void limitBelowWhatThereIs() {
        Check.says(4, "(SWAPMAX, PIDS may be below what there is.)");
        GroupLimits x = Check.flat(3);
        x.swap(9);
        x.charge(0, ANON, 9);
        x.take(1, 4);
        Check.due("SWAPMAX", x.limit(1, 5, 3), 5);
        Check.due("OUT stays", x.of(1, 14), 4);
        Check.due("SWAPMAX 0", x.limit(1, 5, 0), 5);
        Check.due("nothing more goes out", x.take(1, 1), 0);
        Check.due("PIDS", x.limit(1, 8, 2), 5);
        Check.due("all stay", x.procs(1), 7);
        Check.due("PIDS 0", x.limit(1, 8, 0), 5);
        Check.refused("no more come", x, () -> x.process(1, 0), -4);
    }

    private static void limitTakes() {
        Check.says(4, "By HIGH, MAX, if TOTAL is above: as many as are above are TAKEN from it (without a HIGH, MAX event);");
        for (int what = 2; what <= 3; what++) {
            GroupLimits x = Check.flat(1);
            x.charge(0, CACHE, 10);
            x.charge(0, ANON, 2);
            Check.due("TOTAL isn't above", x.limit(1, what, 12), 12);
            Check.due("one above", x.limit(1, what, 11), 11);
            Check.due("one is TAKEN", x.proc(0, 3), 9);
            Check.due("9 above", x.limit(1, what, 2), 2);
            Check.due("9 are TAKEN", x.proc(0, 3), 0);
            Check.due("no event", x.events(1, 0) + x.events(1, 1) + x.events(1, 2), 0);
            Check.due("no STALL", x.proc(0, 4), 0);
            GroupLimits y = Check.flat(1);
            y.batch(4);
            y.charge(0, CACHE, 2);
            Check.due("STOCKS first, all of them", y.limit(1, what, 3), 2);
            Check.due("CACHE stays", y.proc(0, 3), 2);
        }
        GroupLimits z = Check.flat(1);
        z.charge(0, ANON, 9);
        Check.due("HIGH below what can't be TAKEN", z.limit(1, 2, 8), 9);
        Check.due("nobody dies of it", z.procs(0), 1);
        Check.due("HIGH is so", z.of(1, 2), 8);
        Check.due("a LOW event", z.events(1, 0), 1);
    }

    private static void limitKills() {
        Check.says(4, "by MAX, as long as TOTAL is above then: a DEATH BELOW it.");
        GroupLimits x = Check.flat(3);
        x.charge(0, ANON, 5);
        x.charge(1, ANON, 6);
        x.charge(2, ANON, 6);
        Check.due("TOTAL is MAX", x.limit(1, 3, 17), 17);
        Check.due("one above", x.limit(1, 3, 16), 11);
        Check.due("of like ones the lowest", x.procs(1), 5);
        Check.due("a KILL event", x.events(1, 3), 1);
        Check.due("two die", x.limit(1, 3, 4), 0);
        Check.due("nobody is left", x.procs(1), 0);
        Check.due("KILL events", x.events(1, 3), 3);
        Check.due("no MAX event", x.events(1, 2), 0);
        Check.due("0, with nobody there", x.limit(1, 3, 0), 0);
    }

    private static void limitRefused() {
        Check.says(4, "-4: there is no victim.");
        GroupLimits x = Check.flat(1);
        x.process(1, -10);
        x.process(0, 0);
        x.charge(0, ANON, 5);
        x.charge(1, ANON, 5);
        x.charge(2, ANON, 50);
        Check.refused("the second DEATH has no victim", x, () -> x.limit(1, 3, 4), -4);
        Check.due("the first is enough", x.limit(1, 3, 5), 5);
        Check.refused("no victim at all", x, () -> x.limit(1, 3, 4), -4);
        Check.due("MAX stays", x.of(1, 3), 5);
    }

    private static void process() {
        Check.says(5, "A PROCESS in a GROUP with an ADJ, without pages: its number, the lowest that is free. -2; -3;");
        GroupLimits x = Check.flat(0);
        Check.refused("no GROUP", x, () -> x.process(2, 0), -2);
        Check.refused("no GROUP", x, () -> x.process(-1, 0), -2);
        Check.refused("no GROUP", x, () -> x.process(12, 0), -2);
        Check.refused("ADJ -11", x, () -> x.process(1, -11), -3);
        Check.refused("ADJ 11", x, () -> x.process(1, 11), -3);
        for (int far : FAR) {
            Check.refused("no GROUP", x, () -> x.process(far, 0), -2);
            Check.refused("no ADJ", x, () -> x.process(1, far), -3);
        }
        Check.due("process", x.process(1, -10), 0);
        Check.due("process", x.process(1, 10), 1);
        Check.due("process", x.process(0, 0), 2);
        Check.due("ADJ", x.proc(0, 1) * 100 + x.proc(1, 1), -990);
        Check.due("without pages", x.of(1, 12), 0);
        x.swap(9);
        x.charge(1, ANON, 9);
        x.take(1, 5);
        x.charge(1, CACHE, 9);
        x.work(1, 30);
        x.tick(1);
        x.use(1, 1);
        x.kill(1);
        x.process(1, 10);
        int[] anew = {1, 10, 0, 0, 0, 100, 0, 0, 0};
        for (int what = 0; what < 9; what++) {
            Check.due("nothing of who had the number, " + what, x.proc(1, what), anew[what]);
        }
        x.kill(1);
        x.kill(0);
        Check.due("the lowest that is free", x.process(1, 0), 0);
        Check.due("the next", x.process(1, 0), 1);
        Check.due("behind the third", x.process(1, 0), 3);
    }

    private static void processFull() {
        Check.says(5, "-4: there are 16, or PIDS of a GROUP of its PATH or more BELOW that.");
        GroupLimits x = Check.small();
        for (int p = 3; p < 16; p++) {
            Check.due("process", x.process(p % 4, 0), p);
        }
        Check.refused("there are 16", x, () -> x.process(0, 0), -4);
        x.kill(7);
        Check.due("one was free", x.process(0, 0), 7);
        GroupLimits y = Check.small();
        int[] have = {3, 2, 1};
        for (int g = 0; g < 3; g++) {
            int of = g;
            y.limit(g, 8, have[g] - 1);
            Check.refused("more than PIDS of " + g, y, () -> y.process(2, 0), -4);
            y.limit(g, 8, have[g]);
            Check.refused("PIDS of " + g, y, () -> y.process(2, 0), -4);
            y.limit(g, 8, have[g] + 1);
            Check.due("one fewer than PIDS of " + of, y.process(2, 0), 3);
            y.undo(1);
            y.limit(g, 8, 16);
        }
        y.limit(3, 8, 0);
        Check.due("PIDS of another PATH", y.process(2, 0), 3);
        Check.refused("PIDS 0", y, () -> y.process(3, 0), -4);
    }

    private static void fork() {
        Check.says(6, "A PROCESS like one (its GROUP, its ADJ, nothing else): its number. -2; -4 as process().");
        GroupLimits x = Check.flat(0);
        x.swap(9);
        x.process(1, -7);
        x.charge(0, ANON, 9);
        x.take(1, 4);
        x.charge(0, CACHE, 5);
        x.use(0, 1);
        x.work(0, 30);
        x.tick(2);
        x.use(0, 1);
        int[] is = {1, -7, 7, 5, 1, -56, 2, 20, 10};
        int[] like = {1, -7, 0, 0, 0, -70, 0, 0, 0};
        Check.due("fork", x.fork(0), 1);
        for (int what = 0; what < 9; what++) {
            Check.due("the one " + what, x.proc(0, what), is[what]);
            Check.due("nothing else " + what, x.proc(1, what), like[what]);
        }
        for (int p : new int[] {-1, 2, 15, 16, FAR[0], FAR[1]}) {
            Check.refused("none such", x, () -> x.fork(p), -2);
        }
        x.limit(1, 8, 2);
        Check.refused("PIDS", x, () -> x.fork(0), -4);
        x.limit(1, 8, 1);
        Check.refused("more than PIDS", x, () -> x.fork(0), -4);
        x.limit(1, 8, 16);
        x.limit(0, 8, 2);
        Check.refused("PIDS of the ROOT", x, () -> x.fork(0), -4);
        x.limit(0, 8, 16);
        for (int p = 2; p < 16; p++) {
            Check.due("fork of a fork", x.fork(p - 1), p);
        }
        Check.refused("there are 16", x, () -> x.fork(0), -4);
        x.kill(0);
        Check.due("the lowest that is free", x.fork(15), 0);
        Check.refused("of none, there are 16", x, () -> x.fork(16), -2);
    }

    private static void charge() {
        Check.says(7, "A CHARGE of ANON (kind 0), CACHE (1): 0 none was above MAX by n, 1 something was TAKEN for MAX, 2 others died, 3"
            + " the PROCESS died.");
        GroupLimits x = Check.flat(2);
        x.limit(1, 3, 20);
        Check.due("0 by a batch", x.charge(0, CACHE, 9), 0);
        Check.due("CACHE", x.proc(0, 3) * 10 + x.proc(0, 2), 90);
        Check.due("0 just at MAX", x.charge(1, ANON, 11), 0);
        Check.due("ANON", x.proc(1, 3) * 10 + x.proc(1, 2), 11);
        Check.due("1 as something is TAKEN", x.charge(0, ANON, 1), 1);
        Check.due("1 down to the last", x.charge(0, ANON, 8), 1);
        Check.due("2 as others died", x.charge(0, ANON, 1), 2);
        Check.due("the other", x.procs(1), 1);
        Check.due("3 as it dies", x.charge(0, ANON, 11), 3);
        Check.due("nobody is left", x.procs(1), 0);
        GroupLimits y = Check.flat(1);
        y.batch(4);
        y.limit(1, 3, 5);
        y.charge(0, ANON, 1);
        Check.due("0 from the STOCK", y.charge(0, ANON, 1), 0);
        y.limit(1, 3, 4);
        Check.due("0 from the STOCK at MAX", y.charge(0, ANON, 2), 0);
        Check.due("all of the STOCK", y.of(1, 11) * 10 + y.of(1, 12), 4);
        y.uncharge(0, ANON, 2);
        Check.due("a STOCK that is one too small", y.would(0, ANON, 3), 3);
        y.swap(1);
        Check.due("1 by the STOCK and one of ANON", y.charge(0, ANON, 3), 1);
        Check.due("MAX again", y.of(1, 11) * 10 + y.of(1, 12), 4);
        Check.due("HIGH isn't told", highAlone(), 0);
    }

    /** What a charge tells that is above HIGH, not above MAX, and takes pages by that. */
    private static int highAlone() {
        GroupLimits x = Check.flat(1);
        x.limit(1, 2, 3);
        return x.charge(0, CACHE, 9);
    }

    private static void chargeRefused() {
        Check.says(7, "-2; -3: kind, n; -4: refused.");
        GroupLimits x = Check.flat(0);
        x.process(1, -10);
        for (int p : new int[] {-1, 1, 15, 16, FAR[0], FAR[1]}) {
            Check.refused("none such", x, () -> x.charge(p, ANON, 1), -2);
        }
        for (int kind : new int[] {-1, 2, FAR[0], FAR[1]}) {
            Check.refused("kind", x, () -> x.charge(0, kind, 1), -3);
        }
        for (int n : new int[] {-1, 0, 100, FAR[0], FAR[1]}) {
            Check.refused("n", x, () -> x.charge(0, CACHE, n), -3);
        }
        x.limit(1, 3, 9);
        Check.refused("more than MAX", x, () -> x.charge(0, CACHE, 10), -4);
        Check.due("MAX", x.charge(0, CACHE, 9), 0);
        x.limit(1, 3, 0);
        Check.refused("MAX 0", x, () -> x.charge(0, CACHE, 1), -4);
    }

    private static void uncharge() {
        Check.says(8, "n pages (1 to 99) of a PROCESS are given back: how many of the kind it has then.");
        GroupLimits x = Check.flat(1);
        x.charge(0, ANON, 99);
        x.charge(0, ANON, 21);
        x.charge(0, CACHE, 5);
        Check.due("99", x.uncharge(0, ANON, 99), 21);
        Check.due("1", x.uncharge(0, ANON, 1), 20);
        Check.due("of CACHE", x.uncharge(0, CACHE, 4), 1);
        Check.due("the last", x.uncharge(0, CACHE, 1), 0);
        Check.due("ANON stays", x.proc(0, 2), 20);
        Check.says(8, "-2; -3: kind, n; -4: it hasn't so many.");
        for (int p : new int[] {-1, 1, 15, 16, FAR[0], FAR[1]}) {
            Check.refused("none such", x, () -> x.uncharge(p, ANON, 1), -2);
        }
        for (int kind : new int[] {-1, 2, FAR[0], FAR[1]}) {
            Check.refused("kind", x, () -> x.uncharge(0, kind, 1), -3);
        }
        for (int n : new int[] {-1, 0, 100, FAR[0], FAR[1]}) {
            Check.refused("n", x, () -> x.uncharge(0, ANON, n), -3);
        }
        Check.refused("one more than it has", x, () -> x.uncharge(0, ANON, 21), -4);
        Check.refused("of none", x, () -> x.uncharge(0, CACHE, 1), -4);
        Check.due("just so many", x.uncharge(0, ANON, 20), 0);
    }

    private static void use() {
        Check.says(9, "-2; -3: n, more than it has SWAPPED; -4: refused.");
        GroupLimits x = Check.flat(1);
        x.swap(200);
        x.charge(0, ANON, 99);
        x.take(1, 99);
        x.charge(0, ANON, 20);
        x.take(1, 20);
        Check.due("SWAPPED", x.proc(0, 6), 119);
        for (int p : new int[] {-1, 1, 15, 16, FAR[0], FAR[1]}) {
            Check.refused("none such", x, () -> x.use(p, 1), -2);
        }
        for (int n : new int[] {-1, 0, 100, FAR[0], FAR[1]}) {
            Check.refused("n", x, () -> x.use(0, n), -3);
        }
        Check.due("99", x.use(0, 99), 0);
        Check.refused("more than it has SWAPPED", x, () -> x.use(0, 21), -3);
        Check.due("just so many", x.use(0, 20), 0);
        Check.refused("none is SWAPPED", x, () -> x.use(0, 1), -3);
        GroupLimits y = Check.flat(0);
        y.process(1, -10);
        y.swap(1);
        y.charge(0, ANON, 5);
        y.take(1, 1);
        y.limit(1, 3, 4);
        Check.refused("nobody to die", y, () -> y.use(0, 1), -4);
    }

    private static void useTells() {
        Check.says(9, "It USES n (1 to 99) of its SWAPPED pages: as a CHARGE tells.");
        GroupLimits x = Check.flat(1);
        x.process(1, 1);
        x.swap(9);
        x.charge(0, ANON, 9);
        x.take(1, 9);
        x.limit(1, 3, 10);
        Check.due("0", x.use(0, 1), 0);
        x.charge(1, CACHE, 8);
        x.charge(1, ANON, 1);
        x.limit(1, 5, 0);
        Check.due("1", x.use(0, 8), 1);
        x.undo(1);
        x.uncharge(1, CACHE, 8);
        x.charge(1, ANON, 8);
        Check.due("2", x.use(0, 1), 2);
        Check.due("it has them", x.proc(0, 2) * 10 + x.proc(0, 6), 27);
        x.undo(1);
        x.kill(1);
        x.process(1, -10);
        x.charge(1, ANON, 9);
        Check.due("3", x.use(0, 1), 3);
        Check.due("it is no more", x.proc(0, 0), -99);
        Check.due("nor is what it had SWAPPED", x.count(11), 0);
    }

    private static void work() {
        Check.says(10, "TODO is n (1 to 999) more (999 at most): TODO. -2; -3.");
        GroupLimits x = Check.flat(2);
        Check.due("1", x.work(0, 1), 1);
        Check.due("997 more", x.work(0, 997), 998);
        Check.due("just 999", x.work(0, 1), 999);
        Check.due("999 at most", x.work(0, 1), 999);
        Check.due("999 at once", x.work(1, 999), 999);
        Check.due("999 at most", x.work(1, 999), 999);
        for (int p : new int[] {-1, 2, 15, 16, FAR[0], FAR[1]}) {
            Check.refused("none such", x, () -> x.work(p, 1), -2);
        }
        for (int n : new int[] {-1, 0, 1000, FAR[0], FAR[1]}) {
            Check.refused("n", x, () -> x.work(0, n), -3);
        }
    }
}
