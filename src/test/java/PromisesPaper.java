/** Promises 36 to 48: every sentence with its edges; nothing changes by these calls. */
final class PromisesPaper {
    private static final int ANON = 0;
    private static final int CACHE = 1;
    private static final int[] FAR = {Integer.MIN_VALUE, Integer.MAX_VALUE};
    private static final int[] NO_GROUPS = {-1, 4, 12, FAR[0], FAR[1]};
    private static final int[] NO_PROCESSES = {-1, 3, 16, FAR[0], FAR[1]};

    private PromisesPaper() {
    }

    static void run() {
        victim();
        dying();
        room();
        deaths();
        taken();
        place();
        placeKeptOut();
        due();
        idle();
        weigh();
        pressed();
        would();
        burst();
        burstIsTheMost();
        stalled();
    }

    private static void victim() {
        Check.says(36, "The victim of a DEATH BELOW a GROUP. NONE; -2.");
        GroupLimits x = Check.small();
        Check.told("of like ones the lowest", x, () -> x.victim(0), 0);
        x.charge(2, CACHE, 1);
        Check.told("the most BADNESS", x, () -> x.victim(0), 2);
        Check.told("BELOW 1 alone", x, () -> x.victim(1), 0);
        x.group(2);
        Check.told("NONE: nobody there", x, () -> x.victim(4), -1);
        x.process(4, -10);
        x.charge(3, ANON, 99);
        Check.told("NONE: of ADJ -10 alone", x, () -> x.victim(4), -1);
        Check.told("not of ADJ -10", x, () -> x.victim(2), 1);
        for (int g : new int[] {-1, 5, 12, FAR[0], FAR[1]}) {
            Check.refused("no GROUP", x, () -> x.victim(g), -2);
        }
    }

    private static void dying() {
        Check.says(37, "Who would die by it, as bits. -2.");
        GroupLimits x = Check.small();
        x.process(1, -10);
        x.charge(1, ANON, 9);
        Check.told("the victim alone", x, () -> x.dying(0), 2);
        x.limit(1, 4, 1);
        Check.told("a WHOLE GROUP but ADJ -10", x, () -> x.dying(0), 3);
        x.kill(0);
        x.kill(1);
        Check.told("nobody", x, () -> x.dying(1), 0);
        Check.told("one", x, () -> x.dying(0), 4);
        x.limit(0, 4, 1);
        for (int p = 0; p < 15; p++) {
            x.process(3, 0);
        }
        Check.told("fifteen of 16", x, () -> x.dying(0), 0xFFFF - 8);
        for (int g : NO_GROUPS) {
            Check.refused("no GROUP", x, () -> x.dying(g), -2);
        }
    }

    private static void room() {
        Check.says(38, "How many pages could be charged in a GROUP without anything TAKEN: the least that TOTAL is below MAX in its PATH,"
            + " and its STOCK. -2.");
        GroupLimits x = Check.small();
        x.batch(8);
        Check.told("nothing there", x, () -> x.room(2), 999);
        x.charge(1, ANON, 1);
        Check.told("with its STOCK", x, () -> x.room(2), 991 + 7);
        Check.told("without another's STOCK", x, () -> x.room(1), 991);
        x.limit(0, 3, 20);
        Check.told("by the ROOT", x, () -> x.room(2), 19);
        x.limit(1, 3, 10);
        Check.told("by its PARENT", x, () -> x.room(2), 9);
        x.limit(2, 3, 9);
        Check.told("by itself", x, () -> x.room(2), 8);
        x.limit(2, 3, 8);
        Check.told("the STOCK alone", x, () -> x.room(2), 7);
        x.charge(1, ANON, 7);
        Check.told("none", x, () -> x.room(2), 0);
        Check.told("its PARENT's", x, () -> x.room(1), 2);
        x.limit(3, 3, 0);
        Check.told("MAX 0", x, () -> x.room(3), 0);
        for (int g : NO_GROUPS) {
            Check.refused("no GROUP", x, () -> x.room(g), -2);
        }
    }

    private static void deaths() {
        Check.says(39, "Who would die, were MAX of a GROUP v, as bits (0: none, or it is refused). -2; -3: v.");
        GroupLimits x = Check.small();
        x.charge(0, ANON, 6);
        x.charge(1, ANON, 5);
        x.charge(1, CACHE, 2);
        x.charge(2, ANON, 50);
        Check.told("999", x, () -> x.deaths(1, 999), 0);
        Check.told("TOTAL", x, () -> x.deaths(1, 13), 0);
        Check.told("CACHE is enough", x, () -> x.deaths(1, 11), 0);
        Check.told("one above", x, () -> x.deaths(1, 10), 1);
        Check.told("just the other", x, () -> x.deaths(1, 5), 1);
        Check.told("both", x, () -> x.deaths(1, 4), 3);
        Check.told("0", x, () -> x.deaths(1, 0), 3);
        x.process(2, -10);
        x.charge(3, ANON, 1);
        Check.told("both", x, () -> x.deaths(1, 1), 3);
        Check.told("it is refused", x, () -> x.deaths(1, 0), 0);
        x.limit(1, 4, 1);
        Check.told("as a WHOLE", x, () -> x.deaths(1, 11), 3);
        for (int g : NO_GROUPS) {
            Check.refused("no GROUP", x, () -> x.deaths(g, 0), -2);
        }
        for (int v : new int[] {-1, 1000, FAR[0], FAR[1]}) {
            Check.refused("v", x, () -> x.deaths(1, v), -3);
        }
    }

    private static void taken() {
        Check.says(40, "How many pages (of ANON, CACHE, the STOCK) GROUP g, BELOW r or r itself, would have less, were n (1 to 999) TAKEN"
            + " from r: of its PROCESSES alone, what 0; and its STOCK, what 1. -2: the GROUPS, not BELOW, what; -3: n.");
        GroupLimits x = Check.small();
        x.batch(4);
        x.swap(2);
        x.charge(0, CACHE, 6);
        x.charge(1, ANON, 5);
        x.charge(1, CACHE, 1);
        Check.told("1 by its STOCK", x, () -> x.taken(2, 1, 1, 0) * 10 + x.taken(2, 1, 1, 1), 3);
        Check.told("3 by its STOCK", x, () -> x.taken(2, 1, 3, 0) * 10 + x.taken(2, 1, 3, 1), 3);
        Check.told("4: one of 1", x, () -> x.taken(1, 1, 4, 0) * 10 + x.taken(1, 1, 4, 1), 11);
        Check.told("10: CACHE of both", x, () -> x.taken(1, 1, 10, 0) * 10 + x.taken(2, 1, 10, 0), 61);
        Check.told("999: ANON, too", x, () -> x.taken(2, 1, 999, 0) * 10 + x.taken(2, 1, 999, 1), 36);
        Check.told("r itself", x, () -> x.taken(2, 2, 999, 1), 6);
        Check.told("one that has nothing", x, () -> x.taken(3, 0, 999, 1), 0);
        Check.told("not of those BELOW it", x, () -> x.taken(0, 0, 999, 1), 0);
        Check.refused("r is BELOW it", x, () -> x.taken(1, 2, 1, 0), -2);
        Check.refused("beside r", x, () -> x.taken(3, 1, 1, 0), -2);
        for (int g : NO_GROUPS) {
            Check.refused("no GROUP", x, () -> x.taken(g, 0, 1, 0), -2);
            Check.refused("no r", x, () -> x.taken(1, g, 1, 0), -2);
        }
        for (int what : new int[] {-1, 2, FAR[0], FAR[1]}) {
            Check.refused("no such what", x, () -> x.taken(2, 1, 1, what), -2);
        }
        for (int n : new int[] {-1, 0, 1000, FAR[0], FAR[1]}) {
            Check.refused("n", x, () -> x.taken(2, 1, n, 0), -3);
        }
    }

    private static void place() {
        Check.says(41, "Of GROUPS to which a PROCESS could be moved without anything TAKEN that of the most room() then (its pages"
            + " counted, the STOCK not), of like ones the lowest. NONE: none; -2.");
        GroupLimits x = Check.small();
        x.charge(1, ANON, 10);
        x.limit(0, 3, 100);
        Check.told("of like ones the lowest", x, () -> x.place(1), 0);
        Check.told("not where it is", x, () -> x.place(0), 0);
        x.move(1, 0);
        x.limit(1, 3, 50);
        x.limit(3, 3, 51);
        Check.told("the most", x, () -> x.place(1), 3);
        x.limit(3, 3, 50);
        Check.told("of like ones the lowest", x, () -> x.place(1), 1);
        x.charge(0, CACHE, 1);
        Check.told("what others have there counts", x, () -> x.place(1), 3);
        x.uncharge(0, CACHE, 1);
        x.drain(1);
        x.limit(1, 3, 10);
        x.limit(3, 3, 10);
        Check.told("it just fits", x, () -> x.place(1), 1);
        x.limit(1, 3, 9);
        Check.told("1 and 2 would be above", x, () -> x.place(1), 3);
        x.limit(3, 3, 9);
        Check.told("NONE: all would be", x, () -> x.place(1), -1);
        for (int p : NO_PROCESSES) {
            Check.refused("none such", x, () -> x.place(p), -2);
        }
        GroupLimits y = new GroupLimits();
        y.process(0, 0);
        Check.told("NONE: no other GROUP", y, () -> y.place(0), -1);
    }

    private static void placeKeptOut() {
        GroupLimits x = Check.small();
        x.charge(1, ANON, 10);
        x.move(1, 0);
        x.limit(0, 3, 99);
        x.limit(1, 8, 1);
        Check.told("PIDS of 1", x, () -> x.place(1), 3);
        x.swap(9);
        x.take(0, 2);
        x.limit(3, 5, 1);
        Check.told("SWAPMAX of 3", x, () -> x.place(1), -1);
        x.limit(3, 5, 2);
        Check.told("just SWAPMAX", x, () -> x.place(1), 3);
        GroupLimits y = Check.small();
        y.batch(8);
        y.charge(1, CACHE, 1);
        y.charge(2, CACHE, 8);
        y.limit(2, 3, 100);
        y.limit(3, 3, 100);
        y.limit(1, 3, 500);
        y.move(0, 0);
        y.limit(1, 8, 1);
        y.limit(3, 3, 99);
        // 3 has 91 left. Without PIDS 2 would have 92 and a STOCK.
        Check.told("PIDS of its PARENT", y, () -> y.place(0), 3);
        y.limit(1, 8, 2);
        y.limit(1, 3, 98);
        Check.told("MAX of its PARENT", y, () -> y.place(0), 3);
        y.limit(2, 3, 50);
        y.limit(1, 3, 99);
        Check.told("like ones: 91 both, STOCKS aren't counted", y, () -> y.place(0), 1);
    }

    private static void due() {
        Check.says(42, "What a GROUP would get in the next TICK, if all PROCESSES had 999 to do and no STALL, and nobody had got anything"
            + " in this PERIOD. -2.");
        GroupLimits x = Check.small();
        x.limit(3, 6, 4);
        Check.told("nobody has anything to do", x, () -> x.due(3) * 10 + x.due(1), 82);
        x.limit(3, 7, 5);
        Check.told("by QUOTA", x, () -> x.due(3) * 10 + x.due(1), 55);
        x.work(2, 5);
        x.tick(1);
        Check.told("it is used up, that isn't looked at", x, () -> x.units(3, 0) * 10 + x.due(3), 5);
        x.limit(3, 2, 0);
        x.charge(2, ANON, 4);
        Check.told("a STALL isn't looked at", x, () -> x.due(3), 5);
        x.kill(2);
        Check.told("no PROCESS, nothing", x, () -> x.due(3) * 100 + x.due(1), 10);
        x.cap(99);
        Check.told("CAP 99", x, () -> x.due(0), 99);
        x.cap(0);
        Check.told("CAP 0", x, () -> x.due(0), 0);
        for (int g : NO_GROUPS) {
            Check.refused("no GROUP", x, () -> x.due(g), -2);
        }
    }

    private static void idle() {
        Check.says(43, "In how many TICKS (0 to 100), nothing more being told, nobody has TODO. NONE: not in 100.");
        GroupLimits x = Check.small();
        Check.told("0", x, () -> x.idle(), 0);
        x.work(0, 1);
        Check.told("1", x, () -> x.idle(), 1);
        x.cap(1);
        x.work(0, 98);
        Check.told("99", x, () -> x.idle(), 99);
        x.work(2, 1);
        Check.told("100", x, () -> x.idle(), 100);
        x.work(2, 1);
        Check.told("NONE: 101", x, () -> x.idle(), -1);
        x.tick(1);
        Check.told("100 again", x, () -> x.idle(), 100);
        x.cap(0);
        Check.told("NONE: never", x, () -> x.idle(), -1);
        GroupLimits y = Check.flat(1);
        y.work(0, 6);
        y.limit(1, 7, 2);
        Check.told("in the first TICK of the third PERIOD", y, () -> y.idle(), 11);
        y.limit(1, 2, 0);
        y.charge(0, ANON, 80);
        Check.told("behind a STALL of 20, three PERIODS", y, () -> y.idle(), 31);
        y.kill(0);
        Check.told("nobody is there", y, () -> y.idle(), 0);
    }

    private static void weigh() {
        Check.says(44, "The least WEIGHT of a GROUP (not the ROOT) by which it would get u units (1 to 99) at least in the next TICK."
            + " NONE: none; -2: the GROUP, the ROOT; -3: u.");
        GroupLimits x = Check.small();
        x.work(0, 99);
        x.work(2, 99);
        Check.told("1 unit", x, () -> x.weigh(3, 1), 1);
        Check.told("5 units", x, () -> x.weigh(3, 5), 1);
        Check.told("6 units", x, () -> x.weigh(3, 6), 2);
        // By 8 of 9: 8 and 1, the one left to the heavier.
        Check.told("9 units", x, () -> x.weigh(3, 9), 5);
        Check.told("NONE: 10 units", x, () -> x.weigh(3, 10), -1);
        x.limit(3, 6, 9);
        Check.told("what it has isn't looked at", x, () -> x.weigh(3, 6), 2);
        Check.told("by 9 just", x, () -> x.weigh(1, 5), 9);
        Check.told("NONE: one more", x, () -> x.weigh(1, 6), -1);
        x.cap(99);
        x.kill(0);
        Check.told("99 units", x, () -> x.weigh(3, 99), 1);
        Check.told("NONE: it doesn't ask", x, () -> x.weigh(1, 1), -1);
        Check.refused("the ROOT", x, () -> x.weigh(0, 1), -2);
        for (int g : NO_GROUPS) {
            Check.refused("no GROUP", x, () -> x.weigh(g, 1), -2);
        }
        for (int u : new int[] {-1, 0, 100, FAR[0], FAR[1]}) {
            Check.refused("u", x, () -> x.weigh(3, u), -3);
        }
    }

    private static void pressed() {
        Check.says(45, "TOTAL of a GROUP, were as many TAKEN from it as can be (999). -2.");
        GroupLimits x = Check.small();
        Check.told("nothing there", x, () -> x.pressed(1), 0);
        x.batch(4);
        x.charge(0, CACHE, 9);
        x.charge(1, ANON, 6);
        x.charge(1, CACHE, 1);
        Check.told("ANON stays", x, () -> x.pressed(1), 6);
        x.swap(4);
        Check.told("by SWAP", x, () -> x.pressed(1), 2);
        x.limit(2, 1, 999);
        Check.told("LOW goes", x, () -> x.pressed(1), 2);
        x.limit(2, 0, 5);
        Check.told("MIN stays", x, () -> x.pressed(1), 5);
        Check.told("but for itself", x, () -> x.pressed(2), 2);
        for (int p = 0; p < 9; p++) {
            x.charge(2, CACHE, 99);
        }
        x.limit(2, 1, 0);
        x.limit(2, 0, 0);
        x.batch(1);
        x.charge(2, CACHE, 89);
        Check.due("all that can be is there", x.of(0, 12), 999);
        Check.told("ANON beyond SWAP stays", x, () -> x.pressed(0), 2);
        x.swap(6);
        Check.told("999 can be TAKEN", x, () -> x.pressed(0), 0);
        for (int g : NO_GROUPS) {
            Check.refused("no GROUP", x, () -> x.pressed(g), -2);
        }
    }

    private static void would() {
        Check.says(46, "What a CHARGE would tell (0 to 3, -4). -2; -3 likewise.");
        GroupLimits x = Check.small();
        x.kill(2);
        x.process(1, -10);
        x.limit(1, 3, 20);
        x.charge(0, CACHE, 5);
        x.charge(1, ANON, 8);
        int[] n = {1, 7, 8, 12, 13, 20, 21, 99};
        int[] first = {0, 0, 1, 1, 2, 2, 3, 3};
        int[] third = {0, 0, 1, 1, 2, 2, -4, -4};
        for (int i = 0; i < n.length; i++) {
            int pages = n[i];
            Check.told("would " + pages, x, () -> x.would(0, ANON, pages), first[i]);
            Check.told("would " + pages, x, () -> x.would(2, CACHE, pages), third[i]);
            int told = x.charge(2, ANON, pages);
            Check.due("so it tells", told, third[i]);
            if (told >= 0) {
                x.undo(1);
            }
        }
        for (int p : NO_PROCESSES) {
            Check.refused("none such", x, () -> x.would(p, 0, 1), -2);
        }
        for (int kind : new int[] {-1, 2, FAR[0], FAR[1]}) {
            Check.refused("kind", x, () -> x.would(0, kind, 1), -3);
        }
        for (int pages : new int[] {-1, 0, 100, FAR[0], FAR[1]}) {
            Check.refused("n", x, () -> x.would(0, 0, pages), -3);
        }
    }

    private static void burst() {
        Check.says(47, "The most pages that could be CHARGED at once so that it tells 0 or 1 (0: none). -2; -3: kind.");
        GroupLimits x = Check.small();
        Check.told("99 at most", x, () -> x.burst(0, ANON), 99);
        x.limit(1, 3, 99);
        Check.told("just 99", x, () -> x.burst(0, ANON), 99);
        x.limit(1, 3, 98);
        Check.told("98", x, () -> x.burst(0, ANON), 98);
        x.limit(1, 3, 10);
        x.charge(0, CACHE, 4);
        x.charge(1, ANON, 5);
        Check.told("with what can be TAKEN", x, () -> x.burst(0, CACHE), 5);
        x.swap(2);
        Check.told("by SWAP, too", x, () -> x.burst(0, CACHE), 7);
        x.swap(0);
        x.limit(1, 3, 6);
        Check.told("1", x, () -> x.burst(0, CACHE), 1);
        x.limit(1, 3, 5);
        Check.told("0: none", x, () -> x.burst(0, CACHE), 0);
        x.limit(1, 3, 0);
        Check.told("0: MAX 0", x, () -> x.burst(0, CACHE), 0);
        GroupLimits y = Check.flat(1);
        y.batch(8);
        y.charge(0, ANON, 1);
        y.limit(1, 3, 8);
        Check.told("by the STOCK alone", y, () -> y.burst(0, ANON), 7);
        for (int p : NO_PROCESSES) {
            Check.refused("none such", x, () -> x.burst(p, 0), -2);
        }
        for (int kind : new int[] {-1, 2, FAR[0], FAR[1]}) {
            Check.refused("kind", y, () -> y.burst(0, kind), -3);
        }
    }

    private static void burstIsTheMost() {
        GroupLimits x = TermsBack.busy();
        for (int p = 0; p < 3; p++) {
            int most = 0;
            for (int n = 1; n <= 99; n++) {
                int told = x.would(p, ANON, n);
                most = told == 0 || told == 1 ? n : most;
            }
            Check.due("the most that would()", x.burst(p, ANON), most);
        }
    }

    private static void stalled() {
        Check.says(48, "The STALL that a PROCESS would have behind a CHARGE that tells 0, 1 or 2. NONE: it tells another; -2; -3.");
        GroupLimits x = Check.small();
        x.limit(1, 2, 10);
        Check.told("just HIGH", x, () -> x.stalled(0, ANON, 10), 0);
        Check.told("one above", x, () -> x.stalled(0, ANON, 11), 1);
        Check.told("20 at most", x, () -> x.stalled(0, ANON, 99), 20);
        x.charge(0, ANON, 12);
        Check.told("with what it has", x, () -> x.stalled(0, ANON, 3), 3);
        x.limit(1, 3, 20);
        x.charge(1, CACHE, 2);
        Check.told("tells 0", x, () -> x.stalled(1, CACHE, 1), x.proc(1, 4) + 1);
        x.process(2, 9);
        x.charge(3, ANON, 8);
        Check.told("tells 2", x, () -> x.would(0, ANON, 4) * 10 + x.stalled(0, ANON, 4), 20 + 1 + 2);
        Check.told("NONE: tells 3", x, () -> x.stalled(3, ANON, 4), -1);
        x.process(1, -10);
        Check.told("NONE: tells -4", x, () -> x.stalled(4, ANON, 21), -1);
        for (int p : new int[] {-1, 5, 16, FAR[0], FAR[1]}) {
            Check.refused("none such", x, () -> x.stalled(p, 0, 1), -2);
        }
        for (int kind : new int[] {-1, 2, FAR[0], FAR[1]}) {
            Check.refused("kind", x, () -> x.stalled(0, kind, 1), -3);
        }
        for (int n : new int[] {-1, 0, 100, FAR[0], FAR[1]}) {
            Check.refused("n", x, () -> x.stalled(0, 0, n), -3);
        }
    }
}
