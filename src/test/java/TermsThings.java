/** The terms, what there is: groups, processes, their numbers and bounds. */
final class TermsThings {
    private static final int[] LEAST = {0, 0, 0, 0, 0, 0, 1, 0, 0};
    private static final int[] MOST = {999, 999, 999, 999, 1, 999, 9, 99, 16};
    private static final int[] FIRST = {0, 0, 999, 999, 0, 999, 1, 99, 16};

    private TermsThings() {
    }

    static void run() {
        groups();
        belowAndPath();
        processes();
        stallAtMost();
        limitsAtFirst();
        limitsWithin();
        noQuota();
        sums();
        settings();
        constants();
    }

    private static void groups() {
        Check.says(0, "GROUPS 0 to 11: 0 is the ROOT, always there; others have a PARENT (there).");
        GroupLimits x = new GroupLimits();
        Check.due("the ROOT is there", x.below(0), 1);
        Check.due("the ROOT has no PARENT", x.of(0, 9), -1);
        Check.due("the others aren't", x.below(1), -2);
        for (int g = 1; g < 12; g++) {
            Check.due("group", x.group(0), g);
        }
        Check.due("11 is the last", x.of(11, 9), 0);
        Check.refused("a 13th", x, () -> x.group(0), -4);
        Check.due("12 is none", x.below(12), -2);
        Check.due("-1 is none", x.below(-1), -2);
        Check.refused("the ROOT stays", x, () -> x.remove(0), -5);
        for (int g = 1; g < 12; g++) {
            x.remove(g);
        }
        Check.refused("the ROOT stays, alone, too", x, () -> x.remove(0), -5);
        Check.refused("a PARENT that is no more", x, () -> x.group(11), -2);
        Check.refused("a PARENT that never was", x, () -> x.group(-1), -2);
    }

    private static void belowAndPath() {
        Check.says(0, "BELOW a GROUP: it, its CHILDREN, theirs, and so on; its PATH: it, its PARENT, and on up to the ROOT.");
        GroupLimits x = new GroupLimits();
        for (int g = 1; g < 12; g++) {
            x.group(g - 1);
        }
        Check.due("all are BELOW the ROOT", x.below(0), 0xFFF);
        Check.due("the last has itself BELOW it alone", x.below(11), 1 << 11);
        Check.due("in between", x.below(4), 0xFF0);
        x.process(11, 0);
        x.batch(1);
        x.charge(0, 0, 9);
        for (int g = 0; g < 12; g++) {
            Check.due("a charge is in TOTAL of " + g, x.of(g, 12), 9);
            x.limit(g, 3, 10);
            Check.due("its PATH has " + g, x.room(11), 1);
            x.limit(g, 3, 999);
        }
        Check.due("the ROOT's PATH is the ROOT", x.common(0, 11), 0);
        deepest(x);
    }

    /** Twelve groups, each below the one ahead of it; process 0, with 9 pages of ANON, in the last. */
    private static void deepest(GroupLimits x) {
        x.swap(9);
        x.take(11, 2);
        for (int g = 0; g < 12; g++) {
            Check.due("OUT of " + g, x.of(g, 14), 2);
            x.limit(g, 5, 2);
            Check.due("SWAPMAX of " + g, x.spare(11, 11, 0, 0), 0);
            x.limit(g, 5, 999);
            x.limit(g, 3, 7);
            Check.due("MAX of " + g, x.charge(0, 0, 1), 1);
            Check.due("its MAX event", x.events(g, 2), 1);
            x.undo(2);
            x.limit(g, 8, 1);
            Check.due("PIDS of " + g, x.process(11, 0), -4);
            x.limit(g, 8, 16);
            x.limit(g, 4, 1);
            Check.due("a WHOLE one, " + g, x.dying(0), 1);
            x.limit(g, 4, 0);
        }
        x.process(0, -5);
        Check.due("alone", x.dying(0), 1);
        x.limit(0, 4, 1);
        Check.due("the WHOLE ROOT", x.dying(0), 3);
        x.swap(2);
        for (int g = 0; g < 12; g++) {
            x.limit(g, 2, 7);
        }
        x.charge(0, 0, 1);
        for (int g = 0; g < 12; g++) {
            Check.due("HIGH event of " + g, x.events(g, 1), 1);
        }
        Check.due("STALL by each", x.proc(0, 4), 12);
        x.work(0, 5);
        x.tick(1);
        for (int g = 0; g < 12; g++) {
            Check.due("SOME of " + g, x.stalls(g, 0), 1);
            Check.due("FULL of " + g, x.stalls(g, 1), g == 0 ? 0 : 1);
        }
        x.tick(12);
        for (int g = 0; g < 12; g++) {
            Check.due("it got, " + g, x.of(g, 15), 5);
        }
        Check.due("from the last to the ROOT", x.move(0, 0) * 10 + x.of(1, 12), 110);
        Check.due("from the ROOT to the last", x.move(0, 11) * 10 + x.of(1, 12), 8);
    }

    private static void processes() {
        Check.says(0, "PROCESSES 0 to 15, each in a GROUP, with an ADJ of -10 to 10, ANON and CACHE pages, SWAPPED ones, a STALL"
            + " (TICKS, 0 at first, 20 at most), TODO and DONE (units of work, 0 at first).");
        GroupLimits x = new GroupLimits();
        Check.refused("ADJ below -10", x, () -> x.process(0, -11), -3);
        Check.refused("ADJ above 10", x, () -> x.process(0, 11), -3);
        for (int p = 0; p < 16; p++) {
            int adj = p % 2 == 0 ? -10 : 10;
            Check.due("process", x.process(0, adj), p);
            int[] first = {0, adj, 0, 0, 0, 10 * adj, 0, 0, 0};
            for (int what = 0; what < 9; what++) {
                Check.due("proc " + what + " at first", x.proc(p, what), first[what]);
            }
        }
        Check.refused("a 17th", x, () -> x.process(0, 0), -4);
        Check.due("16 is none", x.proc(16, 0), -99);
        Check.due("-1 is none", x.proc(-1, 0), -99);
    }

    private static void stallAtMost() {
        GroupLimits x = Check.flat(1);
        x.limit(1, 2, 0);
        x.charge(0, 0, 76);
        Check.due("STALL 19", x.proc(0, 4), 19);
        x.undo(1);
        x.charge(0, 0, 80);
        Check.due("STALL 20", x.proc(0, 4), 20);
        x.undo(1);
        x.charge(0, 0, 81);
        Check.due("21 are 20", x.proc(0, 4), 20);
        x.charge(0, 0, 1);
        Check.due("no more by another", x.proc(0, 4), 20);
        x.tick(20);
        Check.due("it ends behind 20 TICKS", x.proc(0, 4), 0);
    }

    private static void limitsAtFirst() {
        Check.says(0, "Of a GROUP: MIN, LOW (0 at first), HIGH, MAX (999 at first), each 0 to 999; WHOLE (0 at first, 1);"
            + " SWAPMAX (999, 0 to 999); WEIGHT (1, 1 to 9); QUOTA (99, 0 to 99; 99 is none); PIDS (16, 0 to 16); a STOCK of pages.");
        GroupLimits x = new GroupLimits();
        x.group(0);
        for (int what = 0; what < 9; what++) {
            Check.due("of the ROOT at first, " + what, x.of(0, what), FIRST[what]);
            Check.due("of another at first, " + what, x.of(1, what), FIRST[what]);
        }
        Check.due("no STOCK at first", x.of(1, 11), 0);
    }

    private static void limitsWithin() {
        GroupLimits x = new GroupLimits();
        x.group(0);
        for (int g = 0; g < 2; g++) {
            for (int what = 0; what < 9; what++) {
                int group = g;
                int row = what;
                Check.refused("too small, " + what, x, () -> x.limit(group, row, LEAST[row] - 1), -3);
                Check.refused("too large, " + what, x, () -> x.limit(group, row, MOST[row] + 1), -3);
                Check.due("the least", x.limit(g, what, LEAST[what]), 0);
                Check.due("is the least", x.of(g, what), LEAST[what]);
                Check.due("the most", x.limit(g, what, MOST[what]), 0);
                Check.due("is the most", x.of(g, what), MOST[what]);
            }
        }
    }

    private static void noQuota() {
        GroupLimits x = Check.flat(1);
        x.cap(99);
        x.work(0, 999);
        x.limit(1, 7, 98);
        x.tick(2);
        Check.due("98 in a PERIOD", x.of(1, 15), 98);
        x.undo(1);
        x.limit(1, 7, 99);
        x.tick(2);
        Check.due("99 is none", x.of(1, 15), 198);
        x.undo(2);
        x.limit(1, 7, 0);
        x.tick(2);
        Check.due("0 is a QUOTA", x.of(1, 15), 0);
    }

    private static void sums() {
        Check.says(0, "OWN: ANON and CACHE of the PROCESSES in it; TOTAL: OWN and STOCK of all GROUPS BELOW it;"
            + " OUT: SWAPPED of all PROCESSES BELOW it.");
        GroupLimits x = Check.small();
        x.batch(4);
        x.swap(9);
        x.charge(0, 0, 9);
        x.charge(1, 0, 6);
        x.charge(1, 1, 5);
        x.take(2, 8);
        x.take(1, 2);
        x.charge(1, 1, 1);
        // 0 has 7 ANON, 2 SWAPPED; 1 has 3 ANON, 3 SWAPPED, 1 CACHE; the STOCK of 2 is 3.
        Check.due("OWN of 1 has no page of 2", x.of(1, 10), 7);
        Check.due("OWN of 2", x.of(2, 10), 4);
        Check.due("OWN of the ROOT", x.of(0, 10), 0);
        Check.due("TOTAL of 2", x.of(2, 12), 7);
        Check.due("TOTAL of 1", x.of(1, 12), 14);
        Check.due("TOTAL of the ROOT", x.of(0, 12), 14);
        Check.due("OUT of 2", x.of(2, 14), 3);
        Check.due("OUT of 1", x.of(1, 14), 5);
        Check.due("OUT of the ROOT", x.of(0, 14), 5);
        Check.due("of one without any", x.of(3, 10) + x.of(3, 12) + x.of(3, 14), 0);
    }

    private static void settings() {
        Check.says(0, "BATCH 1 to 8 (4 at first), SWAP 0 to 999 (0), CAP 0 to 99 (10).");
        GroupLimits x = new GroupLimits();
        Check.refused("BATCH 0", x, () -> x.batch(0), -3);
        Check.refused("BATCH 9", x, () -> x.batch(9), -3);
        Check.due("BATCH 1, 4 at first", x.batch(1), 4);
        Check.due("BATCH 8", x.batch(8), 1);
        Check.due("BATCH", x.count(4), 8);
        Check.refused("SWAP -1", x, () -> x.swap(-1), -3);
        Check.refused("SWAP 1000", x, () -> x.swap(1000), -3);
        Check.due("SWAP 999, 0 at first", x.swap(999), 0);
        Check.due("SWAP 0", x.swap(0), 999);
        Check.due("SWAP", x.count(10), 0);
        Check.refused("CAP -1", x, () -> x.cap(-1), -3);
        Check.refused("CAP 100", x, () -> x.cap(100), -3);
        Check.due("CAP 99, 10 at first", x.cap(99), 10);
        Check.due("CAP 0", x.cap(0), 99);
        Check.due("CAP", x.count(12), 0);
    }

    private static void constants() {
        Check.says(0, "The constants: `NONE = -1`: There is none.");
        Check.due("NONE", GroupLimits.NONE, -1);
    }
}
