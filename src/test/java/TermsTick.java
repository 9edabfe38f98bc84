/** The terms on a TICK: WORK, stalls, TRIGGERS. */
final class TermsTick {
    private static final int ANON = 0;

    private TermsTick() {
    }

    static void run() {
        workFirst();
        asks();
        quota();
        period();
        capToTheRoot();
        oneRound();
        noMoreThanItAsksFor();
        oneToTheHeaviest();
        roundsGoOn();
        eachOnceAsAWhole();
        todoAndDone();
        stalledInWork();
        stalledInSomeAndFull();
        oneLess();
        triggers();
        triggerWindow();
    }

    /** Process p of x, alone in a group without room by HIGH, has a stall of so many ticks. */
    private static void stall(GroupLimits x, int p, int ticks) {
        int g = x.proc(p, 0);
        int high = x.of(g, 2);
        x.limit(g, 2, 0);
        x.charge(p, ANON, 4 * ticks);
        x.uncharge(p, ANON, 4 * ticks);
        x.drain(g);
        x.limit(g, 2, high);
    }

    private static void workFirst() {
        Check.says(0, "A TICK: first WORK.");
        GroupLimits x = Check.small();
        stall(x, 0, 1);
        Check.due("STALL 1", x.proc(0, 4), 1);
        x.work(0, 3);
        x.tick(1);
        Check.due("its STALL was still there at WORK", x.proc(0, 7), 3);
        Check.due("it is over behind that", x.proc(0, 4), 0);
        x.tick(1);
        Check.due("so it works now", x.proc(0, 7), 0);
        x.work(0, 10);
        x.tick(1);
        Check.due("what is done in the TICK isn't left behind it", x.pressure(1, 2, 1), 0);
    }

    private static void asks() {
        Check.says(0, "A PROCESS whose STALL is 0 ASKS for TODO; a GROUP for what its PROCESSES and its CHILDREN ask for together,");
        GroupLimits x = Check.small();
        x.cap(99);
        Check.due("nobody asks", x.units(0, 0), 0);
        x.work(0, 5);
        x.work(1, 7);
        x.work(2, 9);
        Check.due("2 for its PROCESS", x.units(2, 0), 7);
        Check.due("1 for its PROCESS and its CHILD", x.units(1, 0), 12);
        Check.due("the ROOT for all", x.units(0, 0), 21);
        stall(x, 1, 2);
        Check.due("who has a STALL doesn't ask", x.units(1, 1), 0);
        Check.due("2 neither", x.units(2, 0), 0);
        Check.due("1 for the rest", x.units(1, 0), 5);
        Check.due("the ROOT, too", x.units(0, 0), 14);
        x.tick(2);
        Check.due("the STALL is 0", x.units(1, 1), 7);
    }

    private static void quota() {
        Check.says(0, "but (QUOTA below 99) no more than QUOTA less what it got in this PERIOD, 0 at least");
        GroupLimits x = Check.small();
        x.cap(99);
        x.work(0, 99);
        x.work(1, 99);
        x.limit(1, 7, 7);
        Check.due("QUOTA", x.units(1, 0), 7);
        x.limit(2, 7, 2);
        Check.due("QUOTA of a CHILD", x.units(2, 0), 2);
        Check.due("the rest", x.units(0, 1), 5);
        x.tick(1);
        Check.due("QUOTA less what it got is 0", x.units(1, 0), 0);
        x.limit(1, 7, 8);
        Check.due("one is left", x.units(1, 0), 1);
        x.limit(1, 7, 3);
        Check.due("less than it got: 0 at least", x.units(1, 0), 0);
        x.limit(1, 7, 0);
        Check.due("QUOTA 0", x.units(1, 0), 0);
        x.limit(1, 7, 98);
        Check.due("QUOTA 98", x.units(1, 0), 91);
        x.limit(1, 7, 99);
        x.limit(2, 7, 99);
        Check.due("99 is none", x.units(1, 0), 99);
        x.limit(0, 7, 4);
        Check.due("of the ROOT, less than it got", x.units(0, 0), 0);
        x.limit(0, 7, 10);
        Check.due("of the ROOT", x.units(0, 0), 3);
    }

    private static void period() {
        Check.says(0, "(of 5 TICKS: TICKS by 5, cut; by the number of TICKS there were ahead).");
        GroupLimits x = Check.flat(1);
        x.limit(1, 7, 3);
        x.work(0, 99);
        int[] done = {3, 3, 3, 3, 3, 6, 6, 6, 6, 6, 9};
        for (int i = 0; i < done.length; i++) {
            x.tick(1);
            Check.due("DONE behind TICK " + (i + 1), x.proc(0, 8), done[i]);
            Check.due("got in its PERIOD", x.of(1, 15), 3);
        }
        GroupLimits y = Check.flat(1);
        y.limit(1, 7, 3);
        y.tick(4);
        y.work(0, 99);
        y.tick(1);
        Check.due("the last TICK of a PERIOD", y.proc(0, 8), 3);
        Check.due("a PERIOD begins with the next", y.units(1, 0), 3);
        y.tick(1);
        Check.due("the first of the next", y.proc(0, 8), 6);
        Check.due("it is used up", y.units(1, 0), 0);
    }

    private static void capToTheRoot() {
        Check.says(0, "CAP is given to the ROOT, but no more than it asks for.");
        GroupLimits x = Check.flat(1);
        x.work(0, 20);
        x.cap(19);
        Check.due("CAP is less", x.units(0, 0), 19);
        x.cap(20);
        Check.due("CAP is as much", x.units(0, 0), 20);
        x.cap(21);
        Check.due("no more than it asks for", x.units(0, 0), 20);
        x.cap(0);
        Check.due("CAP 0", x.units(0, 0), 0);
        x.tick(9);
        Check.due("nothing is done", x.proc(0, 8), 0);
        x.cap(99);
        x.work(0, 999);
        Check.due("99", x.units(0, 1), 99);
    }

    private static void oneRound() {
        Check.says(0, "What is given to a GROUP is parted among its CHILDREN (by their WEIGHT) and its PROCESSES (WEIGHT 1 each), in"
            + " rounds: a round begins with what is left, u, and all of them that still ask for more, with the sum W of their"
            + " WEIGHTS:");
        GroupLimits x = Check.small();
        x.process(0, 0);
        for (int p = 0; p < 4; p++) {
            x.work(p, 99);
        }
        x.limit(1, 6, 9);
        x.limit(3, 6, 2);
        x.cap(24);
        // W is 9 and 2 and 1.
        Check.due("by WEIGHT 9", x.units(1, 0), 18);
        Check.due("by WEIGHT 2", x.units(3, 0), 4);
        Check.due("a PROCESS by 1", x.units(3, 1), 2);
        Check.due("a CHILD and a PROCESS of 1", x.units(2, 0) * 10 + x.units(0, 1), 99);
        x.kill(2);
        // W is 9 and 1: who doesn't ask isn't of it. 24: 21 and 2, then 1 to the heavier.
        Check.due("without who doesn't ask", x.units(1, 0) * 10 + x.units(3, 1), 222);
        x.limit(0, 6, 9);
        Check.due("WEIGHT of the ROOT isn't looked at", x.units(1, 0) * 10 + x.units(3, 1), 222);
    }

    /** Processes in the ROOT with these to do. */
    private static GroupLimits todo(int cap, int... units) {
        GroupLimits x = new GroupLimits();
        x.cap(cap);
        for (int p = 0; p < units.length; p++) {
            x.process(0, 0);
            if (units[p] > 0) {
                x.work(p, units[p]);
            }
        }
        return x;
    }

    private static void gets(String what, GroupLimits x, int... units) {
        for (int p = 0; p < units.length; p++) {
            Check.due(what + ", process " + p, x.units(p, 1), units[p]);
        }
    }

    private static void noMoreThanItAsksFor() {
        Check.says(0, "each in order (CHILDREN rising, then PROCESSES rising) gets u times its WEIGHT by W, cut, but no more than it"
            + " asks for yet;");
        gets("just as many", todo(8, 4, 4), 4, 4);
        gets("fewer than its part", todo(8, 3, 9), 3, 5);
        gets("cut: 8 by 3", todo(8, 9, 9, 9), 4, 2, 2);
        gets("none asks", todo(8, 0, 0), 0, 0);
        gets("one asks", todo(8, 0, 5), 0, 5);
        gets("one by one is asked", todo(2, 1, 1, 1), 1, 1, 0);
    }

    private static void oneToTheHeaviest() {
        Check.says(0, "if nobody got any by that, the one of the most WEIGHT of them (of like ones the first in order) gets one.");
        GroupLimits x = Check.small();
        x.group(0);
        x.process(4, 0);
        x.process(0, 0);
        for (int p = 0; p < 5; p++) {
            x.work(p, 9);
        }
        x.cap(1);
        Check.due("of like ones the first CHILD", x.units(1, 0), 1);
        x.limit(4, 6, 3);
        Check.due("the most WEIGHT", x.units(4, 0) * 10 + x.units(1, 0), 10);
        x.limit(3, 6, 3);
        Check.due("of like ones the first", x.units(3, 0) * 10 + x.units(4, 0), 10);
        x.limit(1, 6, 2);
        x.cap(2);
        // W is 9: 2 by 9 is none for all, twice to 3.
        Check.due("one, and in the next round one more", x.units(3, 0) * 10 + x.units(4, 0), 20);
        x.cap(3);
        // 3 times 3 by 9 is one for both, the third goes to the first of them.
        Check.due("as long as nobody got any alone", x.units(3, 0) * 10 + x.units(4, 0), 21);
        GroupLimits y = Check.flat(0);
        y.process(0, 0);
        y.process(1, 0);
        y.work(0, 9);
        y.work(1, 9);
        y.cap(1);
        Check.due("a CHILD ahead of a PROCESS", y.units(1, 0) * 10 + y.units(0, 1), 10);
        y.limit(1, 7, 0);
        Check.due("only those that ask", y.units(1, 0) * 10 + y.units(0, 1), 1);
    }

    private static void roundsGoOn() {
        Check.says(0, "Rounds go on as long as something is left and somebody asks.");
        gets("three rounds", todo(16, 5, 1, 1, 99), 5, 1, 1, 9);
        gets("just all", todo(16, 5, 1, 1, 9), 5, 1, 1, 9);
        gets("one by one at the end", todo(15, 1, 5, 5, 5), 1, 5, 5, 4);
        gets("one fewer than they are", todo(3, 1, 5, 5, 5), 1, 2, 0, 0);
        gets("99 of sixteen", todo(99, 9, 9, 9, 9, 9, 9, 9, 9, 9, 9, 9, 9, 9, 9, 9, 9), 9, 6, 6, 6, 6);
    }

    private static void eachOnceAsAWhole() {
        Check.says(0, "(CHILDREN part theirs behind that, each once, as a whole.)");
        GroupLimits x = Check.flat(2);
        x.process(0, 0);
        x.work(0, 5);
        x.work(1, 5);
        x.work(2, 1);
        x.cap(3);
        // 1 gets one in the first round, one in the second: two as a whole, one for each of its processes.
        Check.due("1 gets 2", x.units(1, 0), 2);
        Check.due("one each", x.units(0, 1) * 10 + x.units(1, 1), 11);
        GroupLimits y = new GroupLimits();
        for (int g = 1; g < 12; g++) {
            y.group(g - 1);
        }
        y.process(11, 0);
        y.process(11, 0);
        y.work(0, 9);
        y.work(1, 9);
        Check.due("down to the lowest", y.units(11, 0), 10);
        Check.due("parted there", y.units(0, 1) * 10 + y.units(1, 1), 55);
    }

    private static void todoAndDone() {
        Check.says(0, "What a PROCESS gets is of its TODO no more, and DONE.");
        GroupLimits x = todo(7, 9, 4);
        x.tick(1);
        Check.due("TODO", x.proc(0, 7) * 10 + x.proc(1, 7), 51);
        Check.due("DONE", x.proc(0, 8) * 10 + x.proc(1, 8), 43);
        x.tick(1);
        Check.due("all is DONE", x.proc(0, 8) * 10 + x.proc(1, 8), 94);
        Check.due("nothing TODO", x.proc(0, 7) + x.proc(1, 7), 0);
        x.tick(1);
        Check.due("no more than that", x.proc(0, 8) * 10 + x.proc(1, 8), 94);
        Check.due("what the ROOT got", x.of(0, 15), 13);
    }

    private static void stalledInWork() {
        Check.says(0, "Then a GROUP is STALLED in WORK, if a PROCESS BELOW it whose STALL is 0 has some TODO left.");
        GroupLimits x = Check.small();
        x.work(1, 11);
        x.tick(1);
        Check.due("one unit is left", x.stalls(2, 2), 1);
        Check.due("of its PARENT", x.stalls(1, 2), 1);
        Check.due("of the ROOT", x.stalls(0, 2), 1);
        Check.due("not of others", x.stalls(3, 2), 0);
        x.tick(1);
        Check.due("none is left", x.stalls(2, 2), 1);
        Check.due("of the ROOT neither", x.stalls(0, 2), 1);
        stall(x, 1, 1);
        x.work(1, 11);
        x.tick(1);
        Check.due("who has a STALL isn't", x.stalls(2, 2), 1);
        x.tick(1);
        Check.due("behind it he is", x.stalls(2, 2), 2);
        x.limit(2, 7, 0);
        x.tick(1);
        Check.due("by QUOTA, too", x.stalls(2, 2), 3);
    }

    private static void stalledInSomeAndFull() {
        Check.says(0, "A GROUP is STALLED in SOME, if a PROCESS BELOW it has a STALL above 0, in FULL, if there are PROCESSES BELOW it"
            + " and all have;");
        GroupLimits x = Check.small();
        x.group(0);
        stall(x, 1, 2);
        x.tick(1);
        Check.due("SOME", x.stalls(2, 0) * 100 + x.stalls(1, 0) * 10 + x.stalls(0, 0), 111);
        Check.due("FULL of 2 alone", x.stalls(2, 1) * 100 + x.stalls(1, 1) * 10 + x.stalls(0, 1), 100);
        Check.due("not of others", x.stalls(3, 0) + x.stalls(3, 1), 0);
        stall(x, 0, 1);
        x.tick(1);
        Check.due("FULL of 1", x.stalls(2, 1) * 100 + x.stalls(1, 1) * 10 + x.stalls(0, 1), 210);
        Check.due("not FULL without PROCESSES", x.stalls(4, 1), 0);
        Check.due("nor SOME", x.stalls(4, 0), 0);
        x.tick(1);
        Check.due("STALL 0: none", x.stalls(2, 0) * 100 + x.stalls(1, 0) * 10 + x.stalls(0, 0), 222);
        stall(x, 0, 1);
        stall(x, 1, 1);
        stall(x, 2, 1);
        x.tick(1);
        Check.due("FULL of all", x.stalls(2, 1) * 1000 + x.stalls(1, 1) * 100 + x.stalls(0, 1) * 10 + x.stalls(3, 1), 3211);
    }

    private static void oneLess() {
        Check.says(0, "behind all that each STALL above 0 is one less.");
        GroupLimits x = Check.small();
        stall(x, 0, 1);
        stall(x, 1, 2);
        x.tick(1);
        Check.due("STALL 1 is 0", x.proc(0, 4), 0);
        Check.due("STALL 2 is 1", x.proc(1, 4), 1);
        Check.due("STALL 0 stays", x.proc(2, 4), 0);
        Check.due("1 was counted ahead of that", x.pressure(1, 0, 1), 1);
        x.tick(1);
        Check.due("both are 0", x.proc(0, 4) + x.proc(1, 4), 0);
        Check.due("2 was counted", x.pressure(2, 0, 2), 2);
        x.tick(1);
        Check.due("not any more", x.pressure(2, 0, 1), 0);
        Check.due("no less than 0", x.proc(1, 4), 0);
    }

    private static void triggers() {
        Check.says(0, "TRIGGERS 0 to 3 (a GROUP, a window of w TICKS, n):");
        GroupLimits x = Check.small();
        for (int i = 0; i < 4; i++) {
            Check.due("trigger", x.trigger(i, 1 + i, 1), i);
        }
        Check.refused("a fifth", x, () -> x.trigger(0, 1, 1), -4);
        for (int i = 0; i < 4; i++) {
            Check.due("its GROUP", x.fired(i, 1), i);
        }
        Check.due("4 is none", x.fired(4, 0), -2);
        Check.due("-1 is none", x.fired(-1, 0), -2);
    }

    private static void triggerWindow() {
        Check.says(0, "one FIRES at a TICK behind which its GROUP was STALLED in SOME in n at least of the latest w TICKS, if this"
            + " wasn't so ahead of that TICK.");
        GroupLimits x = Check.small();
        x.trigger(1, 3, 2);
        x.trigger(3, 1, 1);
        stall(x, 0, 1);
        x.tick(1);
        Check.due("1 of 3", x.fired(0, 0), 0);
        x.tick(1);
        stall(x, 0, 1);
        x.tick(1);
        Check.due("2 of the latest 3", x.fired(0, 0), 1);
        x.tick(1);
        Check.due("1 of the latest 3", x.fired(0, 0), 1);
        stall(x, 0, 4);
        x.tick(1);
        Check.due("2 of 3 again", x.fired(0, 0), 2);
        x.tick(3);
        Check.due("3 of 3: it was so ahead", x.fired(0, 0), 2);
        x.tick(3);
        stall(x, 0, 1);
        x.tick(3);
        stall(x, 0, 1);
        x.tick(1);
        Check.due("2 of 4 aren't 2 of 3", x.fired(0, 0), 2);
        Check.due("another GROUP's", x.fired(1, 0), 0);
        GroupLimits y = Check.small();
        y.trigger(1, 40, 20);
        y.trigger(1, 40, 1);
        stall(y, 1, 20);
        y.tick(19);
        Check.due("19 of 40", y.fired(0, 0), 0);
        y.tick(1);
        Check.due("20 of 40, by a CHILD", y.fired(0, 0), 1);
        y.tick(39);
        stall(y, 1, 1);
        y.tick(1);
        Check.due("it was so until now", y.fired(1, 0), 1);
        y.tick(40);
        stall(y, 1, 1);
        y.tick(1);
        Check.due("40 TICKS without: again", y.fired(1, 0), 2);
        GroupLimits z = Check.small();
        stall(z, 0, 3);
        z.tick(2);
        z.trigger(1, 2, 2);
        z.trigger(1, 3, 3);
        z.tick(1);
        Check.due("TICKS ahead of trigger() count: it was so", z.fired(0, 0), 0);
        Check.due("TICKS ahead of trigger() count: it is so now", z.fired(1, 0), 1);
    }
}
