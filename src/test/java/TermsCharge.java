/** The terms on CHARGE, DEATH, giving back and USE. */
final class TermsCharge {
    private static final int ANON = 0;
    private static final int CACHE = 1;

    private TermsCharge() {
    }

    static void run() {
        pagesOfACharge();
        fromTheStock();
        withABatch();
        withABatchOnThePath();
        theFirstAboveMax();
        asManyAsAreAbove();
        aDeath();
        deathAfterDeath();
        refusedWithoutAVictim();
        itselfDied();
        theStockStays();
        aboveHigh();
        highOfTheWholePath();
        highBehindTheStock();
        highStall();
        victim();
        whole();
        killEvents();
        whoDiesIsNoMore();
        giveBack();
        use();
        useStall();
        useThatSwaps();
        useThatIsRefused();
    }

    /** One group, 1, with a process in it, in batches of 4. */
    private static GroupLimits one() {
        GroupLimits x = Check.flat(1);
        x.batch(4);
        return x;
    }

    private static void pagesOfACharge() {
        Check.says(0, "A CHARGE of n pages (1 to 99) of ANON or CACHE to a PROCESS:");
        GroupLimits x = Check.flat(1);
        for (int kind = 0; kind < 2; kind++) {
            int of = kind;
            Check.refused("0 pages", x, () -> x.charge(0, of, 0), -3);
            Check.refused("-1 pages", x, () -> x.charge(0, of, -1), -3);
            Check.refused("100 pages", x, () -> x.charge(0, of, 100), -3);
            Check.due("1 page", x.charge(0, kind, 1), 0);
            Check.due("99 pages", x.charge(0, kind, 99), 0);
            Check.due("100 in all", x.proc(0, 2 + kind), 100);
        }
    }

    private static void fromTheStock() {
        Check.says(0, "(a) if the STOCK of its GROUP has n, these are it.");
        GroupLimits x = one();
        x.process(1, 0);
        x.charge(0, ANON, 1);
        x.limit(1, 3, 4);
        Check.due("STOCK 3, TOTAL 4, MAX 4", x.of(1, 11) * 100 + x.of(1, 12) * 10 + x.of(1, 3), 344);
        Check.due("just n, by another of the GROUP", x.charge(1, CACHE, 3), 0);
        Check.due("the STOCK is empty", x.of(1, 11), 0);
        Check.due("TOTAL stays", x.of(1, 12), 4);
        Check.due("it has them", x.proc(1, 3), 3);
        x.undo(1);
        Check.due("fewer than the STOCK", x.charge(0, ANON, 2), 0);
        Check.due("the rest stays", x.of(1, 11), 1);
        x.undo(2);
        Check.due("one more than the STOCK has", x.charge(0, ANON, 4), 0);
        Check.due("the STOCK isn't used", x.of(1, 11), 3);
        Check.due("TOTAL is more", x.of(1, 12), 8);
        GroupLimits y = Check.small();
        y.batch(4);
        y.charge(0, ANON, 1);
        y.charge(1, ANON, 1);
        Check.due("the STOCK of its PARENT isn't used", y.of(1, 11) * 10 + y.of(2, 11), 33);
        y.charge(1, ANON, 3);
        Check.due("but its own", y.of(1, 11) * 10 + y.of(2, 11), 30);
    }

    private static void withABatch() {
        Check.says(0, "Else (b) if TOTAL of each GROUP of its PATH and the greater of n and BATCH is no more than MAX: n are charged,"
            + " the rest comes to the STOCK.");
        GroupLimits x = one();
        x.limit(1, 3, 10);
        x.charge(0, ANON, 6);
        Check.due("n is greater than BATCH: no rest", x.of(1, 11) * 10 + x.of(1, 12), 6);
        Check.due("BATCH just fits", x.charge(0, ANON, 1), 0);
        Check.due("the rest is in the STOCK", x.of(1, 11) * 100 + x.of(1, 12), 310);
        x.undo(1);
        x.limit(1, 3, 9);
        Check.due("BATCH is one too many", x.charge(0, ANON, 1), 0);
        Check.due("n alone", x.of(1, 11) * 100 + x.of(1, 12), 7);
        Check.due("no MAX event", x.events(1, 2), 0);
        x.undo(2);
        Check.due("n as BATCH", x.charge(0, ANON, 4), 0);
        Check.due("no rest", x.of(1, 11) * 100 + x.of(1, 12), 10);
        x.undo(1);
        x.limit(1, 3, 999);
        x.charge(0, ANON, 3);
        x.charge(0, ANON, 2);
        Check.due("the rest comes to what is there", x.of(1, 11), 3);
        x.batch(1);
        x.drain(1);
        x.charge(0, ANON, 1);
        Check.due("no rest by batches of 1", x.of(1, 11), 0);
    }

    private static void withABatchOnThePath() {
        GroupLimits x = Check.small();
        x.batch(8);
        for (int g = 0; g < 3; g++) {
            x.limit(g, 3, 8);
            Check.due("BATCH just fits " + g, x.charge(1, ANON, 1), 0);
            Check.due("the rest is in the STOCK", x.of(2, 11), 7);
            x.undo(2);
            x.limit(g, 3, 7);
            Check.due("one too many for " + g, x.charge(1, ANON, 1), 0);
            Check.due("no rest", x.of(2, 11), 0);
            x.undo(2);
        }
    }

    private static void theFirstAboveMax() {
        Check.says(0, "Else (c) as long as there is one in its PATH, from it on up the first by which TOTAL and n is above MAX:"
            + " it has a MAX event;");
        GroupLimits x = Check.small();
        x.charge(0, CACHE, 10);
        x.charge(1, CACHE, 10);
        x.limit(2, 3, 12);
        x.limit(1, 3, 21);
        x.limit(0, 3, 21);
        Check.due("fits just", x.charge(1, ANON, 1), 0);
        Check.due("no MAX event", x.events(0, 2) + x.events(1, 2) + x.events(2, 2), 0);
        Check.due("all are above, 2 first", x.charge(1, ANON, 2), 1);
        Check.due("MAX events", x.events(2, 2) * 100 + x.events(1, 2) * 10 + x.events(0, 2), 110);
        // 2 gave one page, then 1 was above by one still: it gave one, by which the ROOT isn't.
        Check.due("of 2 first", x.proc(1, 3), 9);
        Check.due("then of 1", x.proc(0, 3), 9);
        x.limit(1, 3, 999);
        Check.due("only the ROOT is above", x.charge(2, ANON, 1), 1);
        Check.due("MAX events", x.events(3, 2) * 1000 + x.events(2, 2) * 100 + x.events(1, 2) * 10 + x.events(0, 2), 111);
    }

    private static void asManyAsAreAbove() {
        Check.says(0, "as many as are above are TAKEN from it.");
        GroupLimits x = Check.flat(2);
        x.limit(1, 3, 20);
        x.charge(1, CACHE, 18);
        Check.due("TOTAL and n is MAX", x.charge(0, ANON, 2), 0);
        Check.due("nothing is TAKEN", x.proc(1, 3), 18);
        Check.due("one above", x.charge(0, ANON, 1), 1);
        Check.due("one is TAKEN", x.proc(1, 3), 17);
        Check.due("17 above", x.charge(0, ANON, 17), 1);
        Check.due("17 are TAKEN", x.proc(1, 3), 0);
        Check.due("full of ANON", x.of(1, 12), 20);
        Check.due("no LOW event as it is just enough", x.events(1, 0), 0);
        GroupLimits y = one();
        y.limit(1, 3, 6);
        y.charge(0, ANON, 2);
        Check.due("4 and a STOCK", y.of(1, 11) * 10 + y.of(1, 12), 24);
        Check.due("STOCKS are TAKEN, too", y.charge(0, ANON, 4), 1);
        Check.due("all is ANON", y.of(1, 11) * 10 + y.proc(0, 2), 6);
    }

    private static void aDeath() {
        Check.says(0, "If it is above still: a DEATH BELOW it;");
        GroupLimits x = Check.small();
        x.limit(1, 3, 20);
        x.charge(0, ANON, 9);
        x.charge(1, ANON, 10);
        x.charge(2, ANON, 50);
        Check.due("just MAX", x.charge(0, ANON, 1), 0);
        x.undo(1);
        Check.due("one above, by 0: the victim is 1", x.charge(0, ANON, 2), 2);
        Check.due("1 is dead, not 2 of another GROUP", x.procs(0), 5);
        Check.due("TOTAL", x.of(1, 12), 11);
        Check.due("a MAX event", x.events(1, 2), 1);
        Check.due("a KILL event", x.events(1, 3), 1);
        Check.due("a LOW event by what was TAKEN", x.events(1, 0), 1);
    }

    private static void deathAfterDeath() {
        GroupLimits x = Check.flat(4);
        x.limit(1, 3, 20);
        x.charge(0, ANON, 2);
        x.charge(1, ANON, 6);
        x.charge(2, ANON, 6);
        x.charge(3, ANON, 6);
        Check.due("12 above: two die", x.charge(0, ANON, 12), 2);
        Check.due("of like ones the lowest first", x.procs(1), 9);
        Check.due("two KILL events", x.events(1, 3), 2);
        Check.due("each time a MAX event", x.events(1, 2), 2);
        Check.due("TOTAL", x.of(1, 12), 20);
        x.undo(1);
        Check.due("13 above: three die", x.charge(0, ANON, 13), 2);
        Check.due("it alone is left", x.procs(1), 1);
        x.undo(1);
        Check.due("19 above: it dies at last, as the fourth", x.charge(0, ANON, 19), 3);
        Check.due("nobody is left", x.procs(1), 0);
        Check.due("KILL events", x.events(1, 3), 4);
    }

    private static void refusedWithoutAVictim() {
        Check.says(0, "without a victim the CHARGE is refused.");
        GroupLimits x = new GroupLimits();
        x.batch(1);
        x.swap(3);
        x.group(0);
        x.process(1, -10);
        x.process(1, 0);
        x.limit(1, 3, 10);
        x.charge(0, ANON, 5);
        x.charge(1, CACHE, 4);
        x.charge(1, ANON, 1);
        // 4 of CACHE and 3 of ANON, by SWAP, can be TAKEN; by a death one more.
        Check.told("TAKEN", x, () -> x.would(0, ANON, 7), 1);
        Check.told("by a death", x, () -> x.would(0, ANON, 8), 2);
        Check.refused("behind a death nobody is left to die", x, () -> x.charge(0, ANON, 9), -4);
        Check.due("nobody died", x.procs(1), 3);
        x.kill(1);
        Check.refused("nobody to die", x, () -> x.charge(0, ANON, 9), -4);
        Check.due("all that can be", x.charge(0, ANON, 8), 1);
        GroupLimits y = Check.flat(0);
        y.process(0, 0);
        y.process(1, -10);
        y.charge(0, ANON, 9);
        y.limit(1, 3, 0);
        Check.refused("a victim elsewhere isn't one", y, () -> y.charge(1, ANON, 1), -4);
    }

    private static void itselfDied() {
        Check.says(0, "If the PROCESS itself died, it ends there.");
        GroupLimits x = Check.small();
        x.limit(2, 3, 10);
        x.limit(1, 3, 12);
        x.limit(1, 2, 1);
        x.charge(0, CACHE, 1);
        x.charge(1, ANON, 9);
        x.undo(1);
        x.limit(1, 2, 999);
        x.charge(1, ANON, 9);
        x.limit(1, 2, 10);
        Check.due("it dies", x.charge(1, ANON, 2), 3);
        Check.due("it is no more", x.proc(1, 0), -99);
        Check.due("nothing is charged", x.of(1, 12), 1);
        Check.due("nothing comes to the STOCK", x.of(2, 11), 0);
        Check.due("no ANON, the CACHE of the other", x.count(7) * 10 + x.count(8), 1);
        Check.due("MAX of its PARENT isn't looked at", x.events(1, 2), 0);
        Check.due("nor HIGH", x.events(1, 1), 0);
        Check.due("it can be undone", x.undo(1) * 100 + x.proc(1, 2), 909);
        GroupLimits y = Check.flat(2);
        y.limit(1, 4, 1);
        y.limit(1, 3, 10);
        y.limit(1, 2, 0);
        y.charge(1, ANON, 10);
        int high = y.events(1, 1);
        Check.due("it dies with a victim of its WHOLE GROUP", y.charge(0, ANON, 1), 3);
        Check.due("both died", y.procs(0) * 10 + y.events(1, 3), 2);
        Check.due("no HIGH event by that", y.events(1, 1), high);
    }

    private static void theStockStays() {
        Check.says(0, "Then n are charged (the STOCK stays).");
        GroupLimits x = one();
        x.batch(8);
        x.charge(0, ANON, 6);
        x.limit(1, 3, 14);
        Check.due("STOCK 2, TOTAL 8", x.of(1, 11) * 10 + x.of(1, 12), 28);
        Check.due("BATCH doesn't fit, n does", x.charge(0, ANON, 3), 0);
        Check.due("the STOCK stays", x.of(1, 11) * 100 + x.of(1, 12), 211);
        Check.due("just up to MAX", x.charge(0, ANON, 3), 0);
        Check.due("the STOCK stays", x.of(1, 11) * 100 + x.of(1, 12), 214);
        Check.due("no MAX event", x.events(1, 2), 0);
    }

    private static void aboveHigh() {
        Check.says(0, "(d) Behind (a), (b), (c): for each GROUP of the PATH, from it on up, whose TOTAL is above HIGH: it has a HIGH"
            + " event, as many as are above are TAKEN from it;");
        GroupLimits x = Check.flat(2);
        x.limit(1, 2, 10);
        x.charge(1, CACHE, 8);
        Check.due("TOTAL is HIGH", x.charge(0, ANON, 2), 0);
        Check.due("no HIGH event", x.events(1, 1), 0);
        Check.due("one above", x.charge(0, ANON, 1), 0);
        Check.due("a HIGH event", x.events(1, 1), 1);
        Check.due("one is TAKEN", x.proc(1, 3) * 100 + x.of(1, 12), 710);
        Check.due("7 above", x.charge(0, ANON, 7), 0);
        Check.due("7 are TAKEN", x.proc(1, 3) * 100 + x.of(1, 12), 10);
        Check.due("no STALL as it is just enough", x.proc(0, 4), 0);
        Check.due("HIGH events", x.events(1, 1), 2);
        Check.due("no LOW event", x.events(1, 0), 0);
        GroupLimits y = one();
        y.limit(1, 2, 3);
        Check.due("a batch is above", y.charge(0, ANON, 1), 0);
        Check.due("its STOCK is TAKEN", y.of(1, 11) * 10 + y.of(1, 12), 1);
        Check.due("a HIGH event", y.events(1, 1), 1);
    }

    private static void highOfTheWholePath() {
        GroupLimits x = Check.small();
        x.limit(2, 2, 4);
        x.limit(1, 2, 6);
        x.limit(0, 2, 7);
        x.charge(0, CACHE, 3);
        x.charge(2, CACHE, 1);
        Check.due("charge", x.charge(1, CACHE, 8), 0);
        // 2 gives 4 first; then 1 is above by one, which is of 2 again; then the ROOT isn't.
        Check.due("HIGH events", x.events(2, 1) * 100 + x.events(1, 1) * 10 + x.events(0, 1), 110);
        Check.due("of 2", x.proc(1, 3), 3);
        Check.due("TOTAL of the ROOT", x.of(0, 12), 7);
        Check.due("the ROOT itself", x.charge(2, CACHE, 1), 0);
        Check.due("HIGH event of the ROOT", x.events(0, 1), 1);
        Check.due("not of 3", x.events(3, 1), 0);
    }

    private static void highBehindTheStock() {
        GroupLimits x = one();
        x.charge(0, ANON, 8);
        Check.due("limit", x.limit(1, 2, 4), 8);
        Check.due("uncharge", x.uncharge(0, ANON, 3), 5);
        Check.due("from the STOCK", x.charge(0, CACHE, 2), 0);
        Check.due("a HIGH event behind (a)", x.events(1, 1), 1);
        Check.due("the rest of the STOCK and CACHE were TAKEN", x.of(1, 12), 5);
        Check.due("above by one: STALL", x.proc(0, 4), 1);
        GroupLimits y = one();
        y.limit(1, 3, 9);
        y.charge(0, ANON, 8);
        y.limit(1, 2, 7);
        Check.due("behind (c)", y.charge(0, ANON, 1), 0);
        Check.due("a HIGH event behind (c)", y.events(1, 1), 1);
        Check.due("no MAX event", y.events(1, 2), 0);
        Check.due("STALL", y.proc(0, 4), 1);
    }

    private static void highStall() {
        Check.says(0, "if TOTAL is still above HIGH, STALL of the PROCESS is more by what is above, by 4, cut up (20 at most).");
        int[] pages = {10, 11, 14, 15, 18, 19, 86, 87, 90, 91, 99};
        int[] stall = {0, 1, 1, 2, 2, 3, 19, 20, 20, 20, 20};
        for (int i = 0; i < pages.length; i++) {
            GroupLimits x = Check.flat(1);
            x.limit(1, 2, 10);
            x.charge(0, ANON, pages[i]);
            Check.due("STALL by " + pages[i], x.proc(0, 4), stall[i]);
        }
        GroupLimits x = Check.small();
        x.limit(1, 2, 5);
        x.limit(0, 2, 9);
        x.charge(0, ANON, 10);
        Check.due("by each GROUP above", x.proc(0, 4), 3);
        Check.due("others have none", x.proc(1, 4), 0);
        x.charge(1, ANON, 1);
        Check.due("the one that charges has it", x.proc(1, 4), 3);
        Check.due("the other's stays", x.proc(0, 4), 3);
        x.charge(0, ANON, 1);
        Check.due("it comes to what there is", x.proc(0, 4), 6);
    }

    private static void victim() {
        Check.says(0, "DEATH BELOW r: the victim: of PROCESSES BELOW r whose ADJ isn't -10 that of the most BADNESS: its ANON, CACHE,"
            + " SWAPPED and 10 times ADJ (of like ones the lowest).");
        GroupLimits x = new GroupLimits();
        x.batch(1);
        x.swap(99);
        int[] adj = {-10, -9, 0, 1};
        for (int a : adj) {
            x.process(0, a);
        }
        x.charge(0, ANON, 99);
        x.charge(1, ANON, 99);
        x.charge(2, ANON, 9);
        Check.due("10 times ADJ", x.victim(0), 3);
        x.charge(2, CACHE, 1);
        Check.due("of like ones the lowest: 1 has 9", x.victim(0), 2);
        x.charge(1, CACHE, 1);
        Check.due("of like ones the lowest", x.victim(0), 1);
        x.undo(1);
        x.take(0, 5);
        Check.due("BADNESS with SWAPPED", x.proc(1, 5) + x.proc(2, 5) + x.proc(3, 5), 9 + 9 + 10);
        x.kill(3);
        x.kill(2);
        x.uncharge(1, ANON, x.proc(1, 2));
        Check.due("BADNESS below 0, too", x.victim(0), 1);
        x.kill(1);
        Check.due("never of ADJ -10", x.victim(0), -1);
    }

    private static void whole() {
        Check.says(0, "The highest GROUP of its GROUP's PATH that is BELOW r and WHOLE: all PROCESSES BELOW that whose ADJ isn't -10"
            + " die; without such a GROUP it alone.");
        GroupLimits x = Check.small();
        x.process(2, -10);
        x.process(2, -9);
        x.process(1, 5);
        x.charge(1, ANON, 60);
        Check.due("it alone", x.dying(1), 2);
        x.limit(0, 4, 1);
        Check.due("WHOLE above r doesn't count", x.dying(1), 2);
        x.limit(3, 4, 1);
        Check.due("WHOLE of another PATH doesn't count", x.dying(1), 2);
        x.limit(2, 4, 1);
        Check.due("its own GROUP, but for ADJ -10", x.dying(1), 18);
        x.limit(1, 4, 1);
        Check.due("the highest, r itself", x.dying(1), 51);
        Check.due("that BELOW r", x.dying(2), 18);
        x.limit(2, 4, 0);
        Check.due("not its own, one above it", x.dying(1), 51);
        Check.due("none BELOW r", x.dying(2), 2);
        Check.due("the ROOT", x.dying(0), 55);
        GroupLimits y = new GroupLimits();
        y.process(0, -10);
        y.process(0, 0);
        y.limit(0, 4, 1);
        Check.due("the first has ADJ -10", y.dying(0), 2);
    }

    private static void killEvents() {
        Check.says(0, "r has as many KILL events.");
        GroupLimits x = Check.small();
        x.limit(1, 4, 1);
        x.process(2, -10);
        x.charge(0, ANON, 10);
        x.charge(1, ANON, 10);
        x.charge(2, ANON, 5);
        x.limit(0, 3, 25);
        Check.due("two die of a charge", x.charge(2, ANON, 1), 2);
        Check.due("of the ROOT", x.events(0, 3), 2);
        Check.due("not of the WHOLE one", x.events(1, 3), 0);
        Check.due("nor of theirs", x.events(2, 3), 0);
        Check.due("ADJ -10 lives", x.procs(0), 12);
    }

    private static void whoDiesIsNoMore() {
        Check.says(0, "Who dies is no more, all its pages, TODO with it (nothing comes to the STOCK).");
        GroupLimits x = Check.flat(2);
        x.batch(8);
        x.swap(5);
        x.charge(0, ANON, 9);
        x.charge(0, CACHE, 8);
        x.take(1, 10);
        x.work(0, 7);
        x.limit(1, 3, 9);
        Check.due("0 has 7 ANON, 2 SWAPPED", x.proc(0, 2) * 10 + x.proc(0, 6), 72);
        x.limit(1, 5, 0);
        Check.due("0 dies of another", x.charge(1, ANON, 3), 2);
        Check.due("it is no more", x.proc(0, 0), -99);
        Check.due("its pages", x.of(1, 12), 3);
        Check.due("nothing comes to the STOCK", x.of(1, 11), 0);
        Check.due("what was SWAPPED", x.of(0, 14), 0);
        Check.due("its TODO", x.idle(), 0);
        Check.due("the number is free", x.fork(1), 0);
        for (int what = 2; what < 9; what++) {
            Check.due("nothing is left of it, " + what, x.proc(0, what), 0);
        }
    }

    private static void giveBack() {
        Check.says(0, "To give n pages back of a PROCESS: they come to the STOCK of its GROUP; if that is above BATCH then, all of the"
            + " STOCK is given back.");
        GroupLimits x = one();
        x.charge(0, ANON, 20);
        x.uncharge(0, ANON, 3);
        Check.due("to the STOCK", x.of(1, 11) * 100 + x.of(1, 12), 320);
        x.uncharge(0, ANON, 1);
        Check.due("just BATCH stays", x.of(1, 11) * 100 + x.of(1, 12), 420);
        x.uncharge(0, ANON, 1);
        Check.due("one more: all is given back", x.of(1, 11) * 100 + x.of(1, 12), 15);
        Check.due("TOTAL of the ROOT", x.of(0, 12), 15);
        x.uncharge(0, ANON, 5);
        Check.due("more than BATCH at once", x.of(1, 11) * 100 + x.of(1, 12), 10);
        x.uncharge(0, ANON, 4);
        x.batch(1);
        Check.due("a STOCK above BATCH stays as BATCH is told", x.of(1, 11), 4);
        x.uncharge(0, ANON, 1);
        Check.due("until something comes to it", x.of(1, 11) * 100 + x.of(1, 12), 5);
        GroupLimits y = Check.small();
        y.batch(8);
        y.charge(1, ANON, 9);
        y.uncharge(1, ANON, 9);
        Check.due("above BATCH", y.of(2, 11) * 10 + y.of(1, 11), 0);
        y.charge(1, ANON, 8);
        y.uncharge(1, ANON, 8);
        Check.due("of its GROUP, not of the PARENT", y.of(2, 11) * 10 + y.of(1, 11), 80);
    }

    /** One process with 20 pages of ANON and some SWAPPED, in batches of one page. */
    private static GroupLimits swappedOut(int pages) {
        GroupLimits x = Check.flat(1);
        x.swap(99);
        x.charge(0, ANON, 20);
        for (int left = pages; left > 0; left -= 20) {
            x.take(1, Math.min(20, left));
            x.charge(0, ANON, Math.min(20, left));
        }
        return x;
    }

    private static void use() {
        Check.says(0, "To USE n pages that are SWAPPED: a CHARGE of n of ANON; if it isn't refused, and the PROCESS is there still,"
            + " n fewer are SWAPPED,");
        GroupLimits x = swappedOut(5);
        Check.due("20 ANON, 5 SWAPPED", x.proc(0, 2) * 10 + x.proc(0, 6), 205);
        Check.refused("one more than SWAPPED", x, () -> x.use(0, 6), -3);
        Check.due("all of them", x.use(0, 5), 0);
        Check.due("none is SWAPPED", x.proc(0, 2) * 10 + x.proc(0, 6), 250);
        Check.due("OUT", x.of(0, 14), 0);
        x.undo(1);
        Check.due("one of them", x.use(0, 1), 0);
        Check.due("one fewer", x.proc(0, 2) * 10 + x.proc(0, 6), 214);
        x.batch(4);
        Check.due("in batches", x.use(0, 1), 0);
        Check.due("the rest comes to the STOCK", x.of(1, 11), 3);
        Check.due("from the STOCK", x.use(0, 3), 0);
        Check.due("the STOCK is empty", x.of(1, 11) * 10 + x.proc(0, 6), 0);
    }

    private static void useStall() {
        Check.says(0, "and its STALL is more by n by 4, cut up (20 at most).");
        int[] pages = {1, 4, 5, 8, 9, 76, 77, 80, 81, 85};
        int[] stall = {1, 1, 2, 2, 3, 19, 20, 20, 20, 20};
        for (int i = 0; i < pages.length; i++) {
            GroupLimits x = swappedOut(85);
            Check.due("use", x.use(0, pages[i]), 0);
            Check.due("STALL by " + pages[i], x.proc(0, 4), stall[i]);
        }
        GroupLimits x = swappedOut(12);
        x.use(0, 5);
        x.use(0, 1);
        Check.due("it comes to what there is", x.proc(0, 4), 3);
        x.limit(1, 2, 25);
        x.limit(1, 5, 0);
        x.use(0, 1);
        Check.due("HIGH and USE", x.proc(0, 4), 3 + 1 + 1);
    }

    private static void useThatSwaps() {
        GroupLimits x = swappedOut(5);
        x.limit(1, 3, 20);
        Check.due("as many are SWAPPED for it", x.use(0, 3), 1);
        Check.due("as it was", x.proc(0, 2) * 10 + x.proc(0, 6), 205);
        Check.due("but for the STALL", x.proc(0, 4), 1);
        x.swap(7);
        Check.due("SWAP is looked at ahead of what comes back", x.would(0, ANON, 2), 1);
        Check.due("2 are left in SWAP", x.use(0, 3), 3);
        Check.due("it died", x.procs(0) + x.count(11), 0);
    }

    private static void useThatIsRefused() {
        GroupLimits x = new GroupLimits();
        x.batch(1);
        x.swap(5);
        x.group(0);
        x.process(1, -10);
        x.charge(0, ANON, 9);
        x.take(1, 5);
        x.limit(1, 3, 6);
        Check.due("4 ANON, 5 SWAPPED", x.proc(0, 2) * 10 + x.proc(0, 6), 45);
        Check.refused("nobody to die", x, () -> x.use(0, 3), -4);
        Check.due("it fits", x.use(0, 2), 0);
        Check.due("6 ANON, 3 SWAPPED", x.proc(0, 2) * 10 + x.proc(0, 6), 63);
    }
}
