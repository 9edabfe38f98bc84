/** Promises 11 to 20: every sentence with its edges. */
final class PromisesSet {
    private static final int ANON = 0;
    private static final int CACHE = 1;
    private static final int[] FAR = {Integer.MIN_VALUE, Integer.MAX_VALUE};

    private PromisesSet() {
    }

    static void run() {
        move();
        moveAboveMax();
        moveAboveStill();
        movePids();
        moveSwapMax();
        moveTheseFirst();
        kill();
        take();
        drain();
        batch();
        swap();
        cap();
        tick();
        trigger();
        forget();
    }

    private static void move() {
        Check.says(11, "A PROCESS comes to another GROUP, with its pages:");
        GroupLimits x = Check.small();
        x.batch(4);
        x.swap(9);
        x.charge(1, ANON, 9);
        x.charge(1, CACHE, 2);
        x.take(2, 7);
        x.charge(1, CACHE, 3);
        x.work(1, 30);
        x.tick(1);
        x.use(1, 1);
        x.uncharge(1, CACHE, 1);
        Check.due("ANON, CACHE, SWAPPED", x.proc(1, 2) * 100 + x.proc(1, 3) * 10 + x.proc(1, 6), 722);
        Check.says(11, "its GROUP that was. -2; -5: it is there; -4.");
        Check.due("move", x.move(1, 3), 2);
        Check.due("its GROUP", x.proc(1, 0), 3);
        Check.due("the STOCK stays", x.of(1, 12) * 10 + x.of(2, 11), 11);
        Check.due("its pages came", x.of(3, 12), 9);
        Check.due("what is SWAPPED came", x.of(3, 14) * 10 + x.of(1, 14), 20);
        Check.due("STALL and TODO", x.proc(1, 4) * 100 + x.proc(1, 7), 120);
        Check.refused("it is there", x, () -> x.move(1, 3), -5);
        for (int no : new int[] {-1, 4, 12, FAR[0], FAR[1]}) {
            Check.refused("no GROUP", x, () -> x.move(1, no), -2);
        }
        for (int no : new int[] {-1, 3, 16, FAR[0], FAR[1]}) {
            Check.refused("no PROCESS", x, () -> x.move(no, 1), -2);
        }
        Check.due("to the ROOT", x.move(1, 0), 3);
        Check.due("from the ROOT", x.move(1, 2), 0);
        Check.due("to the PARENT", x.move(1, 1), 2);
        Check.due("to the CHILD", x.move(1, 2), 1);
    }

    private static void moveAboveMax() {
        Check.says(11, "each GROUP of the new PATH that isn't of the old one, from the new one on up: if its TOTAL and these pages are"
            + " above MAX, as many as are above are TAKEN from it (a MAX event);");
        GroupLimits x = Check.small();
        x.charge(0, CACHE, 5);
        x.charge(1, CACHE, 5);
        x.charge(2, ANON, 6);
        x.limit(2, 3, 11);
        Check.due("just MAX", x.move(2, 2), 3);
        Check.due("nothing TAKEN", x.proc(1, 3) * 10 + x.events(2, 2), 50);
        x.move(2, 3);
        x.limit(2, 3, 10);
        Check.due("one above", x.move(2, 2), 3);
        Check.due("one TAKEN, a MAX event", x.proc(1, 3) * 10 + x.events(2, 2), 41);
        Check.due("TOTAL", x.of(2, 12), 10);
        x.move(2, 3);
        x.limit(1, 3, 14);
        Check.due("its PARENT is above by one", x.move(2, 2), 3);
        Check.due("of the PARENT", x.proc(0, 3) * 10 + x.events(1, 2), 41);
        Check.due("not of 2", x.proc(1, 3) * 10 + x.events(2, 2), 41);
        x.move(2, 3);
        x.limit(2, 3, 8);
        x.limit(1, 3, 13);
        Check.due("2 is above by 2, 1 isn't behind that", x.move(2, 2), 3);
        Check.due("MAX events", x.events(2, 2) * 10 + x.events(1, 2), 21);
        x.limit(0, 3, 12);
        x.limit(3, 3, 6);
        Check.due("the ROOT is of both PATHS", x.move(2, 3), 2);
        Check.due("no MAX event of it", x.events(0, 2), 0);
        x.limit(1, 3, x.of(1, 12));
        x.move(1, 1);
        Check.due("its PARENT is of both PATHS", x.move(1, 2), 1);
        Check.due("no MAX event of it", x.events(1, 2), 1);
    }

    private static void moveAboveStill() {
        Check.says(11, "if it is above still, it is refused;");
        GroupLimits x = Check.small();
        x.charge(1, ANON, 5);
        x.charge(1, CACHE, 5);
        x.charge(0, CACHE, 5);
        x.charge(2, ANON, 6);
        x.limit(2, 3, 10);
        Check.refused("5 of CACHE aren't enough for 6", x, () -> x.move(2, 2), -4);
        x.limit(2, 3, 11);
        Check.due("just enough", x.move(2, 2), 3);
        x.undo(1);
        x.charge(2, ANON, 1);
        x.limit(2, 3, 11);
        x.limit(1, 3, 16);
        x.charge(1, ANON, 1);
        Check.refused("2 gives what it has, it is above still", x, () -> x.move(2, 2), -4);
        x.swap(2);
        Check.due("with SWAP", x.move(2, 2), 3);
        Check.due("nobody died", x.procs(0), 7);
        x.undo(1);
        x.swap(0);
        x.limit(2, 3, 999);
        x.limit(1, 3, 12);
        x.charge(0, ANON, 1);
        Check.refused("its PARENT is above still", x, () -> x.move(2, 2), -4);
    }

    private static void movePids() {
        Check.says(11, "so it is, if one of these has PIDS or more BELOW it,");
        GroupLimits x = Check.small();
        x.limit(2, 8, 1);
        Check.refused("PIDS of 2", x, () -> x.move(2, 2), -4);
        x.limit(2, 8, 0);
        Check.refused("more than PIDS of 2", x, () -> x.move(2, 2), -4);
        x.limit(2, 8, 2);
        x.limit(1, 8, 2);
        Check.refused("PIDS of 1", x, () -> x.move(2, 2), -4);
        Check.due("1 is of both PATHS", x.move(0, 2), 1);
        x.undo(1);
        x.limit(1, 8, 3);
        x.limit(0, 8, 0);
        Check.due("the ROOT is of both PATHS", x.move(2, 2), 3);
        Check.due("from 1 to the ROOT", x.move(2, 0), 2);
        x.limit(3, 8, 0);
        Check.refused("PIDS 0", x, () -> x.move(2, 3), -4);
    }

    private static void moveSwapMax() {
        Check.says(11, "or OUT of it and its SWAPPED (above 0) are above SWAPMAX");
        GroupLimits x = Check.small();
        x.swap(99);
        x.charge(1, ANON, 9);
        x.charge(2, ANON, 9);
        x.take(2, 3);
        x.take(3, 2);
        x.limit(2, 5, 4);
        Check.refused("3 and 2 are above 4", x, () -> x.move(2, 2), -4);
        x.limit(2, 5, 5);
        x.limit(1, 5, 4);
        Check.refused("of its PARENT", x, () -> x.move(2, 2), -4);
        x.limit(1, 5, 5);
        x.limit(0, 5, 0);
        Check.due("just 5, the ROOT is of both PATHS", x.move(2, 2), 3);
        x.move(2, 3);
        x.use(2, 1);
        x.limit(2, 5, 3);
        Check.refused("one SWAPPED is above", x, () -> x.move(2, 2), -4);
        x.use(2, 1);
        x.limit(2, 5, 0);
        Check.due("none SWAPPED, OUT above SWAPMAX", x.move(2, 2), 3);
    }

    private static void moveTheseFirst() {
        Check.says(11, "(these two of all of them first):");
        GroupLimits x = Check.small();
        x.swap(99);
        x.charge(1, ANON, 9);
        x.charge(2, ANON, 9);
        x.take(3, 2);
        x.limit(2, 3, 12);
        x.limit(2, 5, 2);
        x.charge(1, CACHE, 3);
        // 7 come to 12 of at most 12: 3 of CACHE are TAKEN and 2 of ANON by SWAPMAX, then it is above still by 2.
        Check.refused("above still", x, () -> x.move(2, 2), -4);
        x.limit(2, 5, 6);
        Check.due("OUT is 0 ahead of what is TAKEN", x.move(2, 2), 3);
        Check.due("OUT comes to 4 and 2 behind it", x.of(2, 14), 6);
        x.undo(2);
        x.limit(2, 5, 4);
        Check.due("it may come above SWAPMAX by what is TAKEN", x.move(2, 2), 3);
        Check.due("OUT", x.of(2, 14), 6);
        Check.due("SWAPMAX", x.of(2, 5), 4);
    }

    private static void kill() {
        Check.says(12, "It dies (alone, no event): how many pages of ANON and CACHE it had. -2.");
        GroupLimits x = Check.small();
        x.swap(9);
        x.limit(0, 4, 1);
        x.limit(1, 4, 1);
        x.charge(1, ANON, 8);
        x.take(2, 3);
        x.charge(1, CACHE, 4);
        Check.due("ANON and CACHE, not what is SWAPPED", x.kill(1), 9);
        Check.due("alone", x.procs(0), 5);
        Check.due("no event", x.events(0, 3) + x.events(1, 3) + x.events(2, 3), 0);
        Check.due("no pages", x.count(3) + x.count(11), 0);
        for (int p : new int[] {-1, 1, 3, 16, FAR[0], FAR[1]}) {
            Check.refused("none such", x, () -> x.kill(p), -2);
        }
        Check.due("one without pages", x.kill(0), 0);
        Check.due("of ADJ -10", x.process(0, -10) + x.kill(0), 0);
        Check.due("the last", x.kill(2) + x.procs(0), 0);
    }

    private static void take() {
        Check.says(13, "n pages (1 to 999) are TAKEN from a GROUP: how many were (with STOCKS). -2; -3.");
        GroupLimits x = Check.small();
        for (int g : new int[] {-1, 4, 12, FAR[0], FAR[1]}) {
            Check.refused("no GROUP", x, () -> x.take(g, 1), -2);
        }
        for (int n : new int[] {-1, 0, 1000, FAR[0], FAR[1]}) {
            Check.refused("n", x, () -> x.take(0, n), -3);
        }
        Check.due("of nothing", x.take(0, 999), 0);
        x.batch(8);
        x.charge(0, CACHE, 1);
        x.charge(1, CACHE, 9);
        x.charge(1, ANON, 2);
        Check.due("1 of STOCKS of 13", x.take(0, 1), 13);
        Check.due("CACHE stays", x.count(8), 10);
        Check.due("999", x.take(0, 999), 10);
        Check.due("ANON stays", x.count(3), 2);
    }

    private static void drain() {
        Check.says(14, "All STOCKS BELOW a GROUP are given back: how many pages. -2.");
        GroupLimits x = Check.small();
        Check.due("none", x.drain(0), 0);
        x.batch(8);
        x.charge(0, CACHE, 1);
        x.charge(1, CACHE, 2);
        x.charge(2, CACHE, 3);
        Check.due("of 2 alone", x.drain(2), 6);
        Check.due("the others stay", x.of(1, 11) * 10 + x.of(3, 11), 75);
        x.undo(1);
        Check.due("of 1 and 2", x.drain(1), 13);
        Check.due("of the rest", x.drain(0), 5);
        Check.due("no STOCK", x.count(9), 0);
        Check.due("pages of PROCESSES stay", x.count(3), 6);
        Check.due("no LOW event", x.events(0, 0) + x.events(1, 0), 0);
        x.move(0, 0);
        x.charge(0, CACHE, 6);
        Check.due("of the ROOT itself", x.drain(0) * 10 + x.of(0, 11), 20);
        for (int g : new int[] {-1, 4, 12, FAR[0], FAR[1]}) {
            Check.refused("no GROUP", x, () -> x.drain(g), -2);
        }
    }

    private static void batch() {
        Check.says(15, "BATCH: what it was. (STOCKS stay.) -3.");
        GroupLimits x = Check.flat(1);
        Check.due("8", x.batch(8), 1);
        x.charge(0, ANON, 1);
        Check.due("1", x.batch(1), 8);
        Check.due("STOCKS stay", x.of(1, 11), 7);
        Check.due("it is used all the same", x.charge(0, ANON, 6) * 10 + x.of(1, 11), 1);
        for (int b : new int[] {-1, 0, 9, FAR[0], FAR[1]}) {
            Check.refused("b", x, () -> x.batch(b), -3);
        }
        Check.due("BATCH", x.count(4), 1);
    }

    private static void swap() {
        Check.says(16, "SWAP: what it was. -3; -4: OUT of the ROOT is more.");
        GroupLimits x = Check.small();
        Check.due("999", x.swap(999), 0);
        Check.due("0", x.swap(0), 999);
        Check.due("9", x.swap(9), 0);
        x.charge(1, ANON, 9);
        x.charge(2, ANON, 9);
        x.take(2, 3);
        x.take(3, 2);
        for (int s : new int[] {-1, 1000, FAR[0], FAR[1]}) {
            Check.refused("s", x, () -> x.swap(s), -3);
        }
        Check.refused("OUT is 5", x, () -> x.swap(4), -4);
        Check.refused("OUT is 5", x, () -> x.swap(0), -4);
        Check.due("just as many", x.swap(5), 9);
        Check.due("nothing more goes out", x.take(0, 1), 0);
        x.kill(1);
        Check.due("OUT is 2", x.swap(2), 5);
    }

    private static void cap() {
        Check.says(17, "CAP: what it was. -3.");
        GroupLimits x = new GroupLimits();
        Check.due("0", x.cap(0), 10);
        Check.due("99", x.cap(99), 0);
        for (int c : new int[] {-1, 100, FAR[0], FAR[1]}) {
            Check.refused("c", x, () -> x.cap(c), -3);
        }
        Check.due("1", x.cap(1), 99);
        Check.due("CAP", x.count(12), 1);
    }

    private static void tick() {
        Check.says(18, "n TICKS (1 to 40): how many TICKS there were ever. -3.");
        GroupLimits x = Check.flat(1);
        for (int n : new int[] {-1, 0, 41, FAR[0], FAR[1]}) {
            Check.refused("n", x, () -> x.tick(n), -3);
        }
        x.cap(1);
        x.work(0, 999);
        Check.due("1", x.tick(1), 1);
        Check.due("40", x.tick(40), 41);
        Check.due("each of them", x.proc(0, 8), 41);
        for (int i = 0; i < 50; i++) {
            x.tick(40);
        }
        Check.due("ever", x.count(2), 2041);
        Check.due("undone, they weren't", x.undo(10) * 10000 + x.count(2), 1641);
        Check.due("the next", x.tick(1), 1642);
    }

    private static void trigger() {
        Check.says(19, "A TRIGGER more: its number. -2; -3: w (1 to 40), n (1 to w); -4: there are 4.");
        GroupLimits x = Check.small();
        for (int g : new int[] {-1, 4, 12, FAR[0], FAR[1]}) {
            Check.refused("no GROUP", x, () -> x.trigger(g, 1, 1), -2);
        }
        for (int w : new int[] {-1, 0, 41, FAR[0], FAR[1]}) {
            Check.refused("w", x, () -> x.trigger(1, w, 1), -3);
        }
        for (int n : new int[] {-1, 0, 6, FAR[0], FAR[1]}) {
            Check.refused("n", x, () -> x.trigger(1, 5, n), -3);
        }
        Check.refused("n is one more than w", x, () -> x.trigger(1, 40, 41), -3);
        Check.due("1 of 1", x.trigger(1, 1, 1), 0);
        Check.due("40 of 40", x.trigger(2, 40, 40), 1);
        Check.due("1 of 40", x.trigger(2, 40, 1), 2);
        Check.due("the same once more", x.trigger(2, 40, 1), 3);
        Check.refused("there are 4", x, () -> x.trigger(3, 1, 1), -4);
        x.undo(1);
        Check.due("there is room again", x.trigger(0, 5, 5), 3);
    }

    private static void forget() {
        Check.says(20, "There are no TRIGGERS any more: how many there were.");
        GroupLimits x = Check.small();
        Check.due("none", x.forget(), 0);
        x.trigger(1, 1, 1);
        Check.due("one", x.forget(), 1);
        for (int i = 0; i < 4; i++) {
            x.trigger(i, 1, 1);
        }
        Check.due("four", x.forget(), 4);
        Check.due("none is left", x.count(5), 0);
        Check.due("none is left", x.fired(0, 0), -2);
        Check.due("the first number again", x.trigger(3, 2, 1), 0);
        Check.due("it never FIRED", x.fired(0, 0) * 10 + x.fired(0, 1), 3);
        x.limit(3, 2, 0);
        x.charge(2, ANON, 4);
        x.tick(1);
        Check.due("it FIRED", x.fired(0, 0), 1);
        x.forget();
        x.trigger(3, 2, 1);
        Check.due("another never FIRED", x.fired(0, 0), 0);
    }
}
