/** Promises 21 to 35: every sentence with its edges. */
final class PromisesLook {
    private static final int ANON = 0;
    private static final int CACHE = 1;
    private static final int[] FAR = {Integer.MIN_VALUE, Integer.MAX_VALUE};
    private static final int[] NO_GROUPS = {-1, 4, 12, FAR[0], FAR[1]};
    private static final int[] NO_PROCESSES = {-1, 3, 16, FAR[0], FAR[1]};

    private PromisesLook() {
    }

    static void run() {
        of();
        ofPeriod();
        proc();
        share();
        spare();
        next();
        below();
        procs();
        common();
        pressure();
        average();
        stalls();
        worst();
        units();
        fired();
        events();
    }

    private static void of() {
        Check.says(21, "Of a GROUP, what 0 to 8 as limit() has them, 9 PARENT (NONE), 10 OWN, 11 STOCK, 12 TOTAL, 13 CACHE of PROCESSES"
            + " in it, 14 OUT,");
        GroupLimits x = Check.small();
        x.batch(8);
        x.swap(9);
        x.charge(0, ANON, 9);
        x.charge(1, CACHE, 9);
        x.charge(1, CACHE, 2);
        x.take(1, 19);
        x.charge(1, ANON, 1);
        x.charge(0, CACHE, 3);
        // 0: 7 ANON, 2 SWAPPED, 3 CACHE, a STOCK of 5 in 1; 1: 1 ANON, a STOCK of 7 in 2.
        int[] root = {-1, 0, 0, 23, 0, 2};
        int[] one = {0, 10, 5, 23, 3, 2};
        int[] two = {1, 1, 7, 8, 0, 0};
        for (int i = 0; i < 6; i++) {
            Check.due("of 0, " + (9 + i), x.of(0, 9 + i), root[i]);
            Check.due("of 1, " + (9 + i), x.of(1, 9 + i), one[i]);
            Check.due("of 2, " + (9 + i), x.of(2, 9 + i), two[i]);
            Check.due("of 3, " + (9 + i), x.of(3, 9 + i), 0);
        }
        int[] v = {1, 2, 300, 400, 1, 5, 6, 7, 8};
        for (int what = 0; what < 9; what++) {
            x.limit(2, what, v[what]);
            Check.due("as limit() has them", x.of(2, what), v[what]);
        }
    }

    private static void ofPeriod() {
        Check.says(21, "15 what it got in the PERIOD of the latest TICK (0 ahead of any). -2.");
        GroupLimits x = Check.small();
        x.work(1, 33);
        Check.due("ahead of any", x.of(2, 15), 0);
        x.tick(1);
        Check.due("one TICK", x.of(2, 15) * 100 + x.of(1, 15), 1010);
        Check.due("of the ROOT", x.of(0, 15), 10);
        Check.due("of others", x.of(3, 15), 0);
        x.tick(4);
        Check.due("the fifth is of the PERIOD", x.of(2, 15), 33);
        x.work(1, 4);
        Check.due("until there is a TICK of the next", x.of(2, 15), 33);
        x.tick(1);
        Check.due("the sixth is of the next", x.of(2, 15), 4);
        x.kill(1);
        Check.due("it got it all the same", x.of(2, 15), 4);
        x.remove(2);
        x.group(1);
        Check.due("a new GROUP", x.of(2, 15) * 10 + x.of(1, 15), 4);
        for (int g : NO_GROUPS) {
            Check.refused("no GROUP", x, () -> x.of(g, 0), -2);
        }
        for (int what : new int[] {-1, 16, FAR[0], FAR[1]}) {
            Check.refused("no such what", x, () -> x.of(1, what), -2);
        }
    }

    private static void proc() {
        Check.says(22, "Of a PROCESS, what 0 its GROUP, 1 ADJ, 2 ANON, 3 CACHE, 4 STALL, 5 BADNESS (below 0, too), 6 SWAPPED, 7 TODO, 8"
            + " DONE. -99: there is none such, what.");
        GroupLimits x = Check.small();
        x.kill(2);
        x.process(3, -10);
        x.swap(9);
        x.charge(2, ANON, 9);
        x.take(3, 6);
        x.charge(2, CACHE, 5);
        x.work(2, 12);
        x.tick(1);
        x.use(2, 5);
        int[] is = {3, -10, 8, 5, 2, -86, 1, 2, 10};
        for (int what = 0; what < 9; what++) {
            Check.due("proc " + what, x.proc(2, what), is[what]);
        }
        x.charge(2, ANON, 99);
        Check.due("BADNESS above 0", x.proc(2, 5), 13);
        for (int p : NO_PROCESSES) {
            Check.refused("none such", x, () -> x.proc(p, 0), -99);
            Check.refused("none such", x, () -> x.proc(p, 9), -99);
        }
        for (int what : new int[] {-1, 9, FAR[0], FAR[1]}) {
            Check.refused("no such what", x, () -> x.proc(2, what), -99);
        }
        x.kill(2);
        Check.refused("it is no more", x, () -> x.proc(2, 0), -99);
    }

    private static void share() {
        Check.says(23, "SHARE of a GROUP BELOW another one, r (not r itself), by a LEVEL. -2: the GROUPS, not BELOW r, r itself; -3: the"
            + " LEVEL.");
        GroupLimits x = Check.small();
        x.charge(1, ANON, 9);
        x.limit(2, 1, 5);
        x.limit(2, 0, 3);
        x.limit(1, 1, 4);
        Check.told("by LOW", x, () -> x.share(2, 1, 0), 5);
        Check.told("by MIN", x, () -> x.share(2, 1, 1), 3);
        Check.told("below the ROOT", x, () -> x.share(2, 0, 0), 4);
        Check.refused("r itself", x, () -> x.share(2, 2, 0), -2);
        Check.refused("the ROOT itself", x, () -> x.share(0, 0, 0), -2);
        Check.refused("r is BELOW it", x, () -> x.share(1, 2, 0), -2);
        Check.refused("beside r", x, () -> x.share(3, 1, 0), -2);
        for (int g : NO_GROUPS) {
            Check.refused("no GROUP", x, () -> x.share(g, 0, 0), -2);
            Check.refused("no r", x, () -> x.share(2, g, 0), -2);
        }
        for (int level : new int[] {-1, 2, FAR[0], FAR[1]}) {
            Check.refused("LEVEL", x, () -> x.share(2, 1, level), -3);
            Check.refused("r itself ahead of the LEVEL", x, () -> x.share(2, 2, level), -2);
        }
    }

    private static void spare() {
        Check.says(24, "SPARE of a GROUP BELOW another one (or r itself) by a LEVEL, of a kind (0 ANON, 1 CACHE). -2; -3.");
        GroupLimits x = Check.small();
        x.swap(9);
        x.charge(1, ANON, 4);
        x.charge(1, CACHE, 6);
        x.limit(2, 1, 7);
        x.limit(2, 0, 5);
        Check.told("CACHE by LOW", x, () -> x.spare(2, 1, 0, 1), 3);
        Check.told("CACHE by MIN", x, () -> x.spare(2, 1, 1, 1), 5);
        Check.told("ANON by LOW", x, () -> x.spare(2, 1, 0, 0), 3);
        Check.told("ANON by MIN", x, () -> x.spare(2, 1, 1, 0), 4);
        Check.told("r itself", x, () -> x.spare(2, 2, 0, 1), 6);
        Check.told("the ROOT itself", x, () -> x.spare(0, 0, 0, 1), 0);
        Check.refused("r is BELOW it", x, () -> x.spare(1, 2, 0, 0), -2);
        Check.refused("beside r", x, () -> x.spare(3, 1, 0, 0), -2);
        for (int g : NO_GROUPS) {
            Check.refused("no GROUP", x, () -> x.spare(g, 0, 0, 0), -2);
            Check.refused("no r", x, () -> x.spare(2, g, 0, 0), -2);
        }
        for (int no : new int[] {-1, 2, FAR[0], FAR[1]}) {
            Check.refused("LEVEL", x, () -> x.spare(2, 1, no, 0), -3);
            Check.refused("kind", x, () -> x.spare(2, 1, 0, no), -3);
        }
    }

    private static void next() {
        Check.says(25, "The GROUP of which is TAKEN next from r by a LEVEL, of a kind. NONE: none has SPARE; -2; -3.");
        GroupLimits x = Check.small();
        Check.told("nothing there", x, () -> x.next(0, 0, 1), -1);
        x.charge(0, CACHE, 1);
        Check.told("one page", x, () -> x.next(0, 0, 1), 1);
        x.charge(1, CACHE, 1);
        Check.told("of like ones the lowest", x, () -> x.next(0, 0, 1), 1);
        x.charge(2, CACHE, 2);
        Check.told("the most", x, () -> x.next(0, 0, 1), 3);
        Check.told("BELOW r alone", x, () -> x.next(1, 0, 1), 1);
        Check.told("r itself", x, () -> x.next(3, 0, 1), 3);
        x.limit(3, 1, 1);
        Check.told("like ones by SPARE", x, () -> x.next(0, 0, 1), 1);
        Check.told("not so by MIN", x, () -> x.next(0, 1, 1), 3);
        x.charge(2, ANON, 1);
        Check.told("no SWAP", x, () -> x.next(0, 0, 0), -1);
        x.swap(1);
        Check.told("SWAP", x, () -> x.next(0, 0, 0), 3);
        x.limit(3, 1, 3);
        Check.told("all of 3 is protected", x, () -> x.next(0, 0, 0), -1);
        for (int g : NO_GROUPS) {
            Check.refused("no GROUP", x, () -> x.next(g, 0, 0), -2);
        }
        for (int no : new int[] {-1, 2, FAR[0], FAR[1]}) {
            Check.refused("LEVEL", x, () -> x.next(0, no, 0), -3);
            Check.refused("kind", x, () -> x.next(0, 0, no), -3);
        }
    }

    private static void below() {
        Check.says(26, "GROUPS BELOW one (it, too), as bits. -2.");
        GroupLimits x = Check.small();
        Check.told("all", x, () -> x.below(0), 15);
        Check.told("it, too", x, () -> x.below(1), 6);
        Check.told("it alone", x, () -> x.below(2), 4);
        for (int g : NO_GROUPS) {
            Check.refused("no GROUP", x, () -> x.below(g), -2);
        }
        x.kill(1);
        x.remove(2);
        Check.told("without who is no more", x, () -> x.below(0), 11);
        x.group(3);
        Check.told("elsewhere then", x, () -> x.below(3), 12);
        Check.told("not here", x, () -> x.below(1), 2);
    }

    private static void procs() {
        Check.says(27, "PROCESSES BELOW a GROUP, as bits. -2.");
        GroupLimits x = Check.small();
        x.group(2);
        Check.told("all", x, () -> x.procs(0), 7);
        Check.told("in it and BELOW", x, () -> x.procs(1), 3);
        Check.told("in it", x, () -> x.procs(2), 2);
        Check.told("none", x, () -> x.procs(4), 0);
        x.move(2, 4);
        Check.told("moved", x, () -> x.procs(1), 7);
        Check.told("moved away", x, () -> x.procs(3), 0);
        for (int p = 3; p < 16; p++) {
            x.fork(2);
        }
        Check.told("all 16", x, () -> x.procs(0), 0xFFFF);
        for (int g : new int[] {-1, 5, 12, FAR[0], FAR[1]}) {
            Check.refused("no GROUP", x, () -> x.procs(g), -2);
        }
    }

    private static void common() {
        Check.says(28, "The lowest GROUP of both PATHS: the first that both have from the GROUPS on up. -2.");
        GroupLimits x = Check.small();
        x.group(2);
        x.group(1);
        Check.told("itself", x, () -> x.common(2, 2), 2);
        Check.told("the ROOT itself", x, () -> x.common(0, 0), 0);
        Check.told("one is of the other's PATH", x, () -> x.common(4, 1), 1);
        Check.told("the other way", x, () -> x.common(1, 4), 1);
        Check.told("in between", x, () -> x.common(4, 5), 1);
        Check.told("the other way", x, () -> x.common(5, 4), 1);
        Check.told("the ROOT", x, () -> x.common(4, 3), 0);
        Check.told("with the ROOT", x, () -> x.common(0, 4), 0);
        for (int g : new int[] {-1, 6, 12, FAR[0], FAR[1]}) {
            Check.refused("no GROUP", x, () -> x.common(g, 0), -2);
            Check.refused("no other", x, () -> x.common(0, g), -2);
        }
    }

    /** Process 1, in group 2, has a stall of 3 ticks; process 2 has 35 units to do. */
    private static GroupLimits stalling() {
        GroupLimits x = Check.small();
        x.limit(2, 2, 0);
        x.charge(1, ANON, 12);
        x.work(2, 35);
        return x;
    }

    private static void pressure() {
        Check.says(29, "In how many of the latest w TICKS (1 to 40) a GROUP was STALLED in SOME (kind 0), in FULL (1), in WORK (2). -2;"
            + " -3: kind, w.");
        GroupLimits x = stalling();
        Check.told("ahead of any TICK", x, () -> x.pressure(2, 0, 40), 0);
        x.tick(4);
        Check.told("the latest", x, () -> x.pressure(2, 0, 1), 0);
        Check.told("the latest 2", x, () -> x.pressure(2, 0, 2), 1);
        Check.told("the latest 4", x, () -> x.pressure(2, 0, 4), 3);
        Check.told("more than there were", x, () -> x.pressure(2, 0, 40), 3);
        Check.told("FULL", x, () -> x.pressure(2, 1, 40), 3);
        Check.told("not FULL", x, () -> x.pressure(1, 1, 40), 0);
        Check.told("WORK", x, () -> x.pressure(3, 2, 40), 3);
        x.tick(37);
        Check.told("40 of 41", x, () -> x.pressure(2, 0, 40), 2);
        Check.told("39 of 41", x, () -> x.pressure(2, 0, 39), 1);
        x.tick(1);
        Check.told("40 of 42", x, () -> x.pressure(2, 0, 40), 1);
        x.tick(1);
        Check.told("40 of 43", x, () -> x.pressure(2, 0, 40), 0);
        GroupLimits y = Check.small();
        y.limit(3, 7, 0);
        y.work(2, 1);
        y.tick(39);
        Check.told("39 of 40", y, () -> y.pressure(3, 2, 40), 39);
        y.tick(40);
        Check.told("40 of 40", y, () -> y.pressure(3, 2, 40), 40);
        for (int g : NO_GROUPS) {
            Check.refused("no GROUP", x, () -> x.pressure(g, 0, 1), -2);
        }
        for (int kind : new int[] {-1, 3, FAR[0], FAR[1]}) {
            Check.refused("kind", x, () -> x.pressure(1, kind, 1), -3);
        }
        for (int w : new int[] {-1, 0, 41, FAR[0], FAR[1]}) {
            Check.refused("w", x, () -> x.pressure(1, 0, w), -3);
        }
    }

    private static void average() {
        Check.says(30, "AVERAGE i of a GROUP (0 to 2: of w 5, 10, 30) of a kind: 0 at first (group()); in each TICK it becomes w - 1"
            + " times it, and 1000 if it is STALLED so, by w, cut. -2; -3: kind, i.");
        GroupLimits x = Check.small();
        x.limit(3, 7, 0);
        x.work(2, 1);
        int[] over = {5, 10, 30};
        int[] is = new int[3];
        for (int t = 0; t <= 60; t++) {
            for (int i = 0; i < 3; i++) {
                Check.due("average " + i + " behind TICK " + t, x.average(3, 2, i), is[i]);
                Check.due("of another kind", x.average(3, 0, i) + x.average(3, 1, i), 0);
                Check.due("of another GROUP", x.average(1, 2, i), 0);
                is[i] = ((over[i] - 1) * is[i] + (t < 30 ? 1000 : 0)) / over[i];
            }
            if (t == 30) {
                x.limit(3, 7, 99);
            }
            x.tick(1);
        }
        Check.due("cut: it comes to 996, not to 1000", longest(), 996);
        for (int g : NO_GROUPS) {
            Check.refused("no GROUP", x, () -> x.average(g, 0, 0), -2);
        }
        for (int no : new int[] {-1, 3, FAR[0], FAR[1]}) {
            Check.refused("kind", x, () -> x.average(1, no, 0), -3);
            Check.refused("i", x, () -> x.average(1, 0, no), -3);
        }
    }

    /** The average over 5 TICKS of a group that is always stalled. */
    private static int longest() {
        GroupLimits x = Check.flat(1);
        x.cap(0);
        x.work(0, 1);
        x.tick(40);
        x.tick(40);
        return x.average(1, 2, 0);
    }

    private static void stalls() {
        Check.says(31, "In how many TICKS ever (since group()). -2; -3: kind.");
        GroupLimits x = stalling();
        Check.told("ahead of any TICK", x, () -> x.stalls(2, 0), 0);
        x.tick(40);
        x.tick(40);
        Check.told("ever", x, () -> x.stalls(2, 0), 3);
        Check.told("FULL", x, () -> x.stalls(2, 1), 3);
        Check.told("WORK", x, () -> x.stalls(3, 2), 3);
        x.cap(0);
        x.work(2, 1);
        for (int i = 0; i < 5; i++) {
            x.tick(40);
        }
        Check.told("more than 40", x, () -> x.stalls(3, 2), 203);
        x.kill(1);
        x.remove(2);
        x.group(1);
        Check.told("since group()", x, () -> x.stalls(2, 0), 0);
        for (int g : NO_GROUPS) {
            Check.refused("no GROUP", x, () -> x.stalls(g, 0), -2);
        }
        for (int kind : new int[] {-1, 3, FAR[0], FAR[1]}) {
            Check.refused("kind", x, () -> x.stalls(1, kind), -3);
        }
    }

    private static void worst() {
        Check.says(32, "The GROUP that was STALLED in SOME in the most of the latest 10 TICKS, but the ROOT, of like ones the lowest."
            + " NONE: none was.");
        GroupLimits x = Check.small();
        x.process(0, 0);
        Check.told("none was", x, () -> x.worst(), -1);
        x.limit(0, 2, 0);
        x.charge(3, ANON, 4);
        x.tick(1);
        Check.told("not the ROOT", x, () -> x.worst(), -1);
        x.limit(0, 2, 999);
        x.limit(3, 2, 0);
        x.limit(2, 2, 0);
        x.charge(2, ANON, 8);
        x.charge(1, ANON, 4);
        x.tick(1);
        Check.told("1, 2 and 3 in one: the lowest", x, () -> x.worst(), 1);
        x.tick(1);
        Check.told("3 in two", x, () -> x.worst(), 3);
        x.tick(8);
        Check.told("the tenth is in it", x, () -> x.worst(), 3);
        Check.told("3 in two, 1 in one", x, () -> x.pressure(3, 0, 10) * 10 + x.pressure(1, 0, 10), 21);
        x.tick(1);
        Check.told("3 in one, 1 in none", x, () -> x.worst(), 3);
        x.tick(1);
        Check.told("none of the latest 10", x, () -> x.worst(), -1);
        x.cap(0);
        x.work(2, 5);
        x.tick(1);
        Check.told("WORK isn't SOME", x, () -> x.worst(), -1);
    }

    private static void units() {
        Check.says(33, "What a GROUP (what 0), a PROCESS (1) would get in the next TICK. -2.");
        GroupLimits x = Check.small();
        Check.told("nothing to do", x, () -> x.units(2, 0), 0);
        x.work(1, 9);
        x.work(2, 9);
        Check.told("a GROUP", x, () -> x.units(2, 0), 5);
        Check.told("a PROCESS", x, () -> x.units(1, 1), 5);
        Check.told("one without", x, () -> x.units(0, 1), 0);
        x.tick(1);
        Check.told("the rest", x, () -> x.units(1, 1) * 10 + x.units(2, 1), 44);
        for (int g : NO_GROUPS) {
            Check.refused("no GROUP", x, () -> x.units(g, 0), -2);
        }
        for (int p : NO_PROCESSES) {
            Check.refused("no PROCESS", x, () -> x.units(p, 1), -2);
        }
        for (int what : new int[] {-1, 2, FAR[0], FAR[1]}) {
            Check.refused("no such what", x, () -> x.units(1, what), -2);
        }
        GroupLimits y = new GroupLimits();
        y.process(0, 0);
        Check.refused("a PROCESS, no GROUP of the number", y, () -> y.units(1, 0), -2);
        y.kill(0);
        Check.refused("a GROUP, no PROCESS of the number", y, () -> y.units(0, 1), -2);
    }

    private static void fired() {
        Check.says(34, "How often a TRIGGER FIRED, what 0; 1: its GROUP. -2.");
        GroupLimits x = stalling();
        Check.refused("none", x, () -> x.fired(0, 0), -2);
        x.trigger(2, 1, 1);
        x.trigger(3, 1, 1);
        Check.told("never", x, () -> x.fired(0, 0), 0);
        Check.told("its GROUP", x, () -> x.fired(0, 1), 2);
        x.tick(4);
        Check.told("once", x, () -> x.fired(0, 0), 1);
        Check.told("the other never", x, () -> x.fired(1, 0) * 10 + x.fired(1, 1), 3);
        for (int i : new int[] {-1, 2, 3, 4, FAR[0], FAR[1]}) {
            Check.refused("none such", x, () -> x.fired(i, 0), -2);
            Check.refused("none such", x, () -> x.fired(i, 1), -2);
        }
        for (int what : new int[] {-1, 2, FAR[0], FAR[1]}) {
            Check.refused("no such what", x, () -> x.fired(0, what), -2);
        }
    }

    private static void events() {
        Check.says(35, "Events of a GROUP, what 0 LOW, 1 HIGH, 2 MAX, 3 KILL. -2.");
        GroupLimits x = Check.flat(3);
        for (int what = 0; what < 4; what++) {
            Check.due("none at first", x.events(1, what), 0);
        }
        x.charge(0, ANON, 8);
        x.take(1, 1);
        x.take(1, 1);
        x.take(1, 1);
        x.limit(1, 3, 12);
        x.charge(1, CACHE, 4);
        x.charge(2, ANON, 1);
        x.charge(2, ANON, 1);
        x.uncharge(1, CACHE, 1);
        x.limit(1, 2, 10);
        x.charge(1, CACHE, 1);
        x.limit(1, 3, 5);
        int[] is = {4, 1, 2, 1};
        for (int what = 0; what < 4; what++) {
            Check.due("events " + what, x.events(1, what), is[what]);
            Check.due("of the ROOT " + what, x.events(0, what), 0);
        }
        for (int g : new int[] {-1, 2, 12, FAR[0], FAR[1]}) {
            Check.refused("no GROUP", x, () -> x.events(g, 0), -2);
        }
        for (int what : new int[] {-1, 4, FAR[0], FAR[1]}) {
            Check.refused("no such what", x, () -> x.events(1, what), -2);
        }
    }
}
