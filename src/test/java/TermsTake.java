/** The terms on SHARES, SPARE and TAKE. */
final class TermsTake {
    private static final int ANON = 0;
    private static final int CACHE = 1;

    private TermsTake() {
    }

    static void run() {
        claim();
        childOfR();
        childOfAnother();
        spareOfCache();
        spareOfAnon();
        stocksFirst();
        groupOfTheMostSpare();
        processOfTheMostCache();
        leastOfFour();
        anonLikewise();
        cacheIsNotLookedAtAgain();
        oneLowEvent();
        goesOnByMin();
        ends();
    }

    private static void claim() {
        Check.says(0, "SHARES: by LEVEL 0 (LOW) or 1 (MIN), below a GROUP r: the CLAIM of a GROUP is the lesser of its LOW (MIN)"
            + " and its TOTAL.");
        GroupLimits x = Check.flat(1);
        x.batch(4);
        for (int level = 0; level < 2; level++) {
            int what = level == 0 ? 1 : 0;
            x.limit(1, what, 5);
            Check.due("nothing is used", x.share(1, 0, level), 0);
            x.charge(0, CACHE, 1);
            // TOTAL is 4 with the STOCK.
            Check.due("TOTAL is less", x.share(1, 0, level), 4);
            x.limit(1, what, 4);
            Check.due("both are the same", x.share(1, 0, level), 4);
            x.limit(1, what, 3);
            Check.due("LOW (MIN) is less", x.share(1, 0, level), 3);
            Check.due("the other LEVEL has none", x.share(1, 0, 1 - level), 0);
            x.limit(1, what, 0);
            Check.due("none", x.share(1, 0, level), 0);
            x.undo(5);
        }
        Check.refused("LEVEL -1", x, () -> x.share(1, 0, -1), -3);
        Check.refused("LEVEL 2", x, () -> x.share(1, 0, 2), -3);
    }

    /** Groups 2 and 4 below 1, with 6 and 4 pages of CACHE; process 1 in 2, process 3 in 4. */
    private static GroupLimits twins() {
        GroupLimits x = Check.small();
        x.group(1);
        x.process(4, 0);
        x.charge(1, CACHE, 6);
        x.charge(3, CACHE, 4);
        return x;
    }

    private static void childOfR() {
        Check.says(0, "A CHILD of r has its CLAIM as SHARE;");
        GroupLimits x = twins();
        x.limit(2, 1, 99);
        x.limit(4, 1, 3);
        Check.due("r has no LOW, its CHILD its CLAIM", x.share(2, 1, 0), 6);
        Check.due("the other CHILD", x.share(4, 1, 0), 3);
        Check.due("below the ROOT 1 has none to share", x.share(2, 0, 0), 0);
        x.limit(1, 1, 99);
        Check.due("a CHILD of the ROOT", x.share(1, 0, 0), 10);
        x.limit(0, 1, 1);
        Check.due("LOW of the ROOT isn't looked at", x.share(1, 0, 0), 10);
    }

    private static void childOfAnother() {
        Check.says(0, "a CHILD of another GROUP g BELOW r: its CLAIM, if the CLAIMS of all CHILDREN of g together are no more than"
            + " the SHARE of g, else CLAIM times the SHARE of g, by all these CLAIMS together, cut.");
        GroupLimits x = twins();
        x.limit(2, 1, 6);
        x.limit(4, 1, 4);
        x.limit(1, 1, 10);
        Check.due("just as many: its CLAIM", x.share(2, 0, 0), 6);
        Check.due("just as many: its CLAIM", x.share(4, 0, 0), 4);
        x.limit(1, 1, 9);
        Check.due("6 times 9 by 10, cut", x.share(2, 0, 0), 5);
        Check.due("4 times 9 by 10, cut", x.share(4, 0, 0), 3);
        x.limit(4, 1, 3);
        Check.due("9 are as many again", x.share(2, 0, 0), 6);
        x.limit(4, 1, 1);
        Check.due("fewer than the SHARE: no more than its CLAIM", x.share(2, 0, 0) * 10 + x.share(4, 0, 0), 61);
        x.limit(2, 1, 0);
        x.limit(1, 1, 0);
        Check.due("a CLAIM of 1, nothing to share", x.share(4, 0, 0), 0);
        x.undo(2);
        x.limit(4, 1, 3);
        x.limit(1, 1, 1);
        Check.due("6 times 1 by 9, cut", x.share(2, 0, 0), 0);
        x.limit(1, 1, 0);
        Check.due("a SHARE of 0", x.share(2, 0, 0), 0);
        x.limit(2, 1, 0);
        x.limit(4, 1, 0);
        Check.due("no CLAIMS at all", x.share(2, 0, 0), 0);
        x.limit(1, 1, 99);
        Check.due("no CLAIMS of a SHARE", x.share(4, 0, 0), 0);
    }

    private static void spareOfCache() {
        Check.says(0, "SPARE of a GROUP g BELOW r, of CACHE (kind 1): the least of the CACHE of all PROCESSES in g and, for each"
            + " GROUP of the PATH of g below r (r not with them), its TOTAL less its SHARE;");
        GroupLimits x = twins();
        x.charge(1, ANON, 5);
        x.process(2, 0);
        x.charge(4, CACHE, 2);
        // 2 has 8 CACHE of two processes and 5 ANON; 1 has 17 in all.
        Check.due("all CACHE in it", x.spare(2, 0, 0, 1), 8);
        Check.due("CACHE in it alone", x.spare(1, 0, 0, 1), 0);
        x.limit(2, 1, 5);
        Check.due("TOTAL less SHARE is as many", x.spare(2, 1, 0, 1), 8);
        x.limit(2, 1, 6);
        Check.due("one fewer", x.spare(2, 1, 0, 1), 7);
        x.limit(2, 1, 13);
        Check.due("all is protected", x.spare(2, 1, 0, 1), 0);
        x.limit(2, 1, 999);
        Check.due("no less than none", x.spare(2, 1, 0, 1), 0);
        Check.due("r not with them", x.spare(2, 2, 0, 1), 8);
        x.limit(2, 1, 0);
        x.limit(1, 1, 10);
        Check.due("of a GROUP in between", x.spare(2, 0, 0, 1), 7);
        Check.due("r not with them", x.spare(2, 1, 0, 1), 8);
        Check.due("by MIN", x.spare(2, 0, 1, 1), 8);
        x.limit(0, 1, 999);
        Check.due("nor the ROOT", x.spare(2, 0, 0, 1), 7);
    }

    private static void spareOfAnon() {
        Check.says(0, "of ANON (kind 0): the least of their ANON, these, SWAP less OUT of the ROOT, and, for each GROUP of the whole"
            + " PATH of g, SWAPMAX less OUT (0 at least).");
        GroupLimits x = Check.small();
        x.charge(1, ANON, 9);
        x.charge(2, ANON, 5);
        Check.due("no SWAP", x.spare(2, 1, 0, 0), 0);
        x.swap(999);
        Check.due("their ANON", x.spare(2, 1, 0, 0), 9);
        x.limit(2, 1, 2);
        Check.due("these", x.spare(2, 1, 0, 0), 7);
        x.swap(6);
        Check.due("SWAP", x.spare(2, 1, 0, 0), 6);
        x.take(3, 2);
        Check.due("SWAP less OUT of the ROOT", x.spare(2, 1, 0, 0), 4);
        x.limit(0, 5, 5);
        Check.due("SWAPMAX of the ROOT less OUT", x.spare(2, 2, 0, 0), 3);
        x.limit(1, 5, 2);
        Check.due("SWAPMAX of one in between, above r", x.spare(2, 2, 0, 0), 2);
        x.limit(2, 5, 1);
        Check.due("SWAPMAX of it", x.spare(2, 0, 0, 0), 1);
        x.limit(2, 5, 0);
        Check.due("none", x.spare(2, 0, 0, 0), 0);
        x.limit(3, 5, 1);
        Check.due("SWAPMAX below OUT: 0 at least", x.spare(3, 0, 0, 0), 0);
        x.limit(3, 5, 2);
        Check.due("SWAPMAX is OUT", x.spare(3, 0, 0, 0), 0);
        x.limit(3, 5, 3);
        Check.due("one more", x.spare(3, 0, 0, 0), 1);
        Check.due("CACHE isn't kept by SWAP", x.spare(3, 0, 0, 1), 0);
    }

    private static void stocksFirst() {
        Check.says(0, "To TAKE n pages from r: all STOCKS BELOW r are given back first (that counts).");
        GroupLimits x = Check.small();
        x.batch(4);
        x.charge(0, CACHE, 2);
        x.charge(1, CACHE, 1);
        x.charge(2, CACHE, 1);
        // STOCKS: 1 has 2, 2 has 3, 3 has 3.
        Check.due("more than n by STOCKS", x.take(1, 1), 5);
        Check.due("no CACHE went", x.proc(0, 3) * 10 + x.proc(1, 3), 21);
        Check.due("STOCKS not BELOW r stay", x.of(3, 11), 3);
        Check.due("no LOW event", x.events(1, 0), 0);
        x.undo(1);
        Check.due("just n by STOCKS", x.take(1, 5), 5);
        Check.due("no CACHE went", x.proc(0, 3) * 10 + x.proc(1, 3), 21);
        x.undo(1);
        Check.due("one more than STOCKS", x.take(1, 6), 6);
        Check.due("one of CACHE", x.proc(0, 3) * 10 + x.proc(1, 3), 11);
        x.undo(1);
        Check.due("a STOCK goes although its GROUP is protected", x.limit(2, 1, 999) + x.take(0, 8), 4 + 8);
        Check.due("no STOCK is left", x.count(9), 0);
        GroupLimits y = new GroupLimits();
        y.process(0, 0);
        y.charge(0, CACHE, 1);
        Check.due("the STOCK of the ROOT itself", y.take(0, 1), 3);
        Check.due("it is empty", y.of(0, 11) * 10 + y.of(0, 12), 1);
    }

    private static void groupOfTheMostSpare() {
        Check.says(0, "Then, as long as fewer than n were taken: by LEVEL 0 and CACHE the GROUP BELOW r of the most SPARE"
            + " (of like ones the lowest), if it has some:");
        GroupLimits x = Check.small();
        x.charge(0, CACHE, 6);
        x.charge(1, CACHE, 6);
        x.charge(2, CACHE, 7);
        Check.due("take 1", x.take(0, 1), 1);
        Check.due("of the most", x.proc(2, 3), 6);
        Check.due("take 1", x.take(0, 1), 1);
        Check.due("of like ones the lowest", x.proc(0, 3), 5);
        Check.due("take 1", x.take(0, 1), 1);
        Check.due("the next of like ones", x.proc(1, 3), 5);
        x.limit(3, 1, 5);
        x.limit(1, 1, 999);
        Check.due("SPARE counts, not CACHE", x.take(0, 1), 1);
        Check.due("of the one that has SPARE", x.proc(2, 3), 5);
        Check.due("BELOW r alone", x.take(2, 3), 3);
        Check.due("of 2 alone", x.proc(1, 3), 2);
        Check.due("n are enough", x.events(0, 0), 0);
    }

    private static void processOfTheMostCache() {
        Check.says(0, "of the PROCESS in it with the most CACHE (of like ones the lowest)");
        GroupLimits x = Check.flat(3);
        x.charge(0, CACHE, 2);
        x.charge(1, CACHE, 5);
        x.charge(2, CACHE, 5);
        x.charge(0, ANON, 50);
        Check.due("take 1", x.take(1, 1), 1);
        Check.due("of like ones the lowest", x.proc(1, 3), 4);
        Check.due("take 1", x.take(1, 1), 1);
        Check.due("of the most", x.proc(2, 3), 4);
        Check.due("ANON doesn't count", x.proc(0, 3), 2);
    }

    private static void leastOfFour() {
        Check.says(0, "the least of 4 pages, of what is still to be taken, of that SPARE, of its CACHE goes;");
        GroupLimits x = Check.small();
        x.charge(0, CACHE, 10);
        x.charge(2, CACHE, 9);
        Check.due("3 still to be taken", x.take(0, 3), 3);
        Check.due("3 of the first", x.proc(0, 3) * 10 + x.proc(2, 3), 79);
        x.undo(1);
        Check.due("4 pages, then one", x.take(0, 5), 5);
        Check.due("4 of the first, one of the other", x.proc(0, 3) * 10 + x.proc(2, 3), 68);
        x.undo(1);
        x.limit(1, 1, 1);
        x.limit(3, 1, 7);
        x.take(0, 8);
        // SPARE 9 and 2: 4 of the first, 4 more.
        Check.due("the other has less SPARE", x.proc(0, 3) * 10 + x.proc(2, 3), 29);
        x.take(0, 2);
        // SPARE 1 and 2: 2 of the other.
        Check.due("2 of the other", x.proc(0, 3) * 10 + x.proc(2, 3), 27);
        x.undo(1);
        x.take(0, 3);
        Check.due("that SPARE, then one", x.proc(0, 3) * 10 + x.proc(2, 3), 17);
        Check.due("no LOW event", x.events(0, 0), 0);
        GroupLimits y = Check.flat(2);
        y.charge(0, CACHE, 3);
        y.charge(1, CACHE, 2);
        y.take(1, 4);
        Check.due("its CACHE, then of the next", y.proc(0, 3) * 10 + y.proc(1, 3), 1);
    }

    private static void anonLikewise() {
        Check.says(0, "as soon as none has SPARE, by LEVEL 0 and ANON likewise (with the most ANON; these are SWAPPED then).");
        GroupLimits x = Check.flat(3);
        x.swap(999);
        x.charge(0, CACHE, 6);
        x.charge(0, ANON, 1);
        x.charge(1, ANON, 7);
        x.charge(2, ANON, 7);
        Check.due("just the CACHE", x.take(1, 6), 6);
        Check.due("nothing is SWAPPED", x.of(1, 14), 0);
        Check.due("one of ANON", x.take(1, 1), 1);
        Check.due("of the most ANON, of like ones the lowest", x.proc(1, 2), 6);
        Check.due("it is SWAPPED", x.proc(1, 6), 1);
        Check.due("4 at once, then 1", x.take(1, 5), 5);
        Check.due("of the most", x.proc(2, 2) * 10 + x.proc(2, 6), 34);
        Check.due("then of the most then", x.proc(1, 2) * 10 + x.proc(1, 6), 52);
        Check.due("no LOW event", x.events(1, 0), 0);
        Check.due("all", x.take(1, 9), 9);
        Check.due("all are SWAPPED", x.of(1, 14) * 100 + x.of(1, 12), 1500);
        Check.due("no LOW event as long as it is enough", x.events(1, 0), 0);
    }

    /** By 4 pages of ANON the SHARE of 2 becomes less, so that 3 has SPARE of CACHE by LEVEL 0 again. */
    private static void cacheIsNotLookedAtAgain() {
        Check.says(0, "As soon as none has SPARE of either (CACHE isn't looked at again by LEVEL 0):");
        GroupLimits x = new GroupLimits();
        x.batch(1);
        x.swap(99);
        int[] parents = {0, 1, 2, 1};
        for (int parent : parents) {
            x.group(parent);
        }
        x.process(2, 0);
        x.process(3, 0);
        x.process(4, 0);
        x.charge(0, ANON, 10);
        x.charge(1, CACHE, 5);
        x.charge(2, ANON, 15);
        x.limit(1, 1, 10);
        x.limit(2, 1, 99);
        x.limit(3, 1, 99);
        x.limit(4, 1, 99);
        x.limit(4, 5, 0);
        Check.due("no SPARE of CACHE", x.next(0, 0, CACHE), -1);
        Check.due("take 4", x.take(0, 4), 4);
        Check.due("SPARE of CACHE again", x.spare(3, 0, 0, CACHE), 1);
        x.undo(1);
        Check.due("take 8", x.take(0, 8), 8);
        Check.due("no CACHE went", x.proc(1, 3), 5);
        Check.due("ANON went", x.proc(0, 6), 8);
        Check.due("no LOW event", x.events(0, 0), 0);
    }

    private static void oneLowEvent() {
        Check.says(0, "r has one LOW event more,");
        GroupLimits x = Check.small();
        x.charge(0, CACHE, 3);
        x.charge(1, CACHE, 4);
        x.limit(2, 1, 4);
        Check.due("what isn't protected", x.take(1, 3), 3);
        Check.due("no LOW event", x.events(1, 0), 0);
        x.undo(1);
        Check.due("one that is", x.take(1, 4), 4);
        Check.due("a LOW event of r", x.events(1, 0), 1);
        Check.due("not of the one that loses", x.events(2, 0), 0);
        Check.due("not of the ROOT", x.events(0, 0), 0);
        Check.due("more than there is", x.take(1, 999), 3);
        Check.due("one LOW event more", x.events(1, 0), 2);
        Check.due("of nothing", x.take(1, 1), 0);
        Check.due("one LOW event more", x.events(1, 0), 3);
    }

    private static void goesOnByMin() {
        Check.says(0, "and it goes on by LEVEL 1 so, CACHE, then ANON.");
        GroupLimits x = Check.small();
        x.swap(99);
        x.charge(0, CACHE, 5);
        x.charge(0, ANON, 5);
        x.charge(2, CACHE, 6);
        x.limit(1, 1, 999);
        x.limit(1, 0, 3);
        x.limit(3, 1, 999);
        x.limit(3, 0, 6);
        Check.due("take 5", x.take(0, 5), 5);
        Check.due("CACHE first", x.proc(0, 3) * 10 + x.proc(0, 2), 5);
        x.undo(1);
        Check.due("take 6", x.take(0, 6), 6);
        Check.due("then ANON", x.proc(0, 3) * 10 + x.proc(0, 2), 4);
        Check.due("it is SWAPPED", x.proc(0, 6), 1);
        Check.due("one LOW event", x.events(0, 0), 1);
        Check.due("down to MIN", x.take(0, 99), 1);
        Check.due("MIN stays", x.of(1, 12) * 10 + x.of(3, 12), 36);
    }

    private static void ends() {
        Check.says(0, "It ends as none has SPARE by that.");
        GroupLimits x = Check.flat(1);
        Check.due("there is nothing", x.take(0, 999), 0);
        x.charge(0, ANON, 9);
        Check.due("ANON without SWAP", x.take(0, 1), 0);
        x.swap(2);
        Check.due("as many as SWAP has", x.take(0, 3), 2);
        x.charge(0, CACHE, 4);
        x.limit(1, 1, 99);
        x.limit(1, 0, 8);
        Check.due("TOTAL", x.of(1, 12), 11);
        Check.due("down to MIN", x.take(0, 999), 3);
        Check.due("MIN", x.of(1, 12), 8);
        Check.due("no more", x.take(0, 1), 0);
        Check.due("but from it itself", x.take(1, 999), 1);
    }
}
