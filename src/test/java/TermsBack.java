import java.util.function.IntSupplier;

/** The terms on what can be UNDONE, IMAGES and refused calls. */
final class TermsBack {
    private static final int ANON = 0;
    private static final int CACHE = 1;
    private static final int CALLS = 19;

    private TermsBack() {
    }

    static void run() {
        whatCanBeUndone();
        whatDidNothing();
        whatCannotBeUndone();
        tenAtMost();
        refusedWithTenKept();
        undoneAsAWhole();
        triggersUndone();
        images();
        nothingBehindAnImage();
        codes();
        tellsFirst();
        aheadOfNone();
    }

    /** A state in which every call can do something, a STOCK and a group to remove with it. */
    static GroupLimits busy() {
        GroupLimits x = Check.busy();
        x.uncharge(0, ANON, 2);
        x.group(0);
        return x;
    }

    /** A call that changes something of a busy state, by its number in the document's list. */
    private static int change(GroupLimits x, int i) {
        IntSupplier[] calls = {() -> x.group(2), () -> x.remove(4), () -> x.limit(1, 3, 10), () -> x.process(3, 4),
            () -> x.fork(1), () -> x.charge(0, ANON, 30), () -> x.uncharge(1, ANON, 2), () -> x.use(2, 3), () -> x.work(1, 5),
            () -> x.move(1, 3), () -> x.kill(0), () -> x.take(0, 20), () -> x.drain(0), () -> x.tick(7),
            () -> x.trigger(0, 7, 7), () -> x.forget(), () -> x.batch(7), () -> x.swap(77), () -> x.cap(1)};
        return calls[i].getAsInt();
    }

    private static void whatCanBeUndone() {
        Check.says(0, "Calls that told GROUPS, PROCESSES, did some (group(), remove(), limit(), process(), fork(), charge(), uncharge(),"
            + " use(), work(), move(), kill(), take(), drain(), tick(), trigger(), forget(), batch(), swap(), cap() that aren't"
            + " refused) can be UNDONE each as a whole, the latest first, 10 at most (eldest are forgotten): all.");
        for (int i = 0; i < CALLS; i++) {
            GroupLimits x = busy();
            x.image(0);
            x.restore(0);
            long before = Check.seen(x);
            int told = change(x, i);
            Check.due("call " + i + " isn't refused", told >= 0);
            Check.due("call " + i + " changes something", Check.seen(x) != before);
            Check.due("call " + i + " can be undone", x.count(6), 1);
            Check.due("undo", x.undo(1), 0);
            Check.due("all is as it was ahead of call " + i, Check.seen(x) == before);
            Check.due("call " + i + " tells the same again", change(x, i), told);
        }
    }

    private static void whatDidNothing() {
        GroupLimits x = new GroupLimits();
        x.drain(0);
        Check.due("drain of no STOCKS", x.count(6), 1);
        x.forget();
        Check.due("forget of no TRIGGERS", x.count(6), 2);
        x.batch(4);
        x.swap(0);
        x.cap(10);
        Check.due("what it was anyway", x.count(6), 5);
        x.take(0, 1);
        Check.due("take of nothing", x.count(6), 6);
        x.limit(0, 3, 999);
        Check.due("a limit as it was", x.count(6), 7);
        x.process(0, 0);
        x.work(0, 999);
        x.work(0, 1);
        Check.due("work that comes to no more", x.count(6), 10);
    }

    private static void whatCannotBeUndone() {
        GroupLimits x = busy();
        x.image(0);
        x.restore(0);
        int[] looks = {x.of(1, 12), x.proc(0, 2), x.share(2, 0, 0), x.spare(2, 0, 0, 1), x.next(0, 0, 1), x.below(0), x.procs(0),
            x.common(1, 2), x.pressure(0, 0, 1), x.average(0, 0, 0), x.stalls(0, 0), x.worst(), x.units(0, 0), x.fired(0, 0),
            x.events(0, 0), x.victim(0), x.dying(0), x.room(0), x.deaths(0, 0), x.taken(1, 0, 9, 1), x.place(0), x.due(0),
            x.idle(), x.weigh(1, 1), x.pressed(0), x.would(0, 0, 50), x.burst(0, 0), x.stalled(0, 0, 9), x.image(1), x.count(0)};
        Check.due("as many calls", looks.length, 30);
        Check.due("nothing can be undone", x.count(6), 0);
        x.cap(1);
        x.undo(1);
        Check.due("undo() neither", x.count(6), 0);
    }

    private static void tenAtMost() {
        GroupLimits x = new GroupLimits();
        for (int c = 1; c <= 9; c++) {
            x.cap(c);
        }
        Check.due("nine", x.count(6), 9);
        x.cap(11);
        Check.due("ten", x.count(6), 10);
        x.cap(12);
        Check.due("ten at most", x.count(6), 10);
        Check.due("the latest first", x.undo(1) * 100 + x.count(12), 911);
        Check.due("all that can be", x.undo(9), 0);
        Check.due("the eldest is forgotten", x.count(12), 1);
        for (int c = 0; c < 500; c++) {
            x.cap(c % 100);
        }
        Check.due("ten at most, ever", x.count(6), 10);
        Check.due("three", x.undo(3) * 100 + x.count(12), 700 + 96);
        x.cap(50);
        Check.due("one more again", x.count(6), 8);
        Check.due("back over it", x.undo(8) * 100 + x.count(12), 89);
    }

    /** A call that is refused only behind what it tried must not cost the eldest of ten. */
    private static void refusedWithTenKept() {
        GroupLimits x = Check.flat(2);
        x.process(0, -10);
        x.move(0, 0);
        x.kill(1);
        x.move(2, 1);
        x.charge(2, CACHE, 3);
        x.charge(2, ANON, 5);
        x.charge(0, ANON, 9);
        long first = Check.seen(x);
        x.limit(1, 3, 9);
        for (int c = 1; c <= 9; c++) {
            x.cap(c);
        }
        Check.due("ten are kept", x.count(6), 10);
        Check.refused("a charge", x, () -> x.charge(2, ANON, 50), -4);
        Check.refused("a limit", x, () -> x.limit(1, 3, 4), -4);
        Check.refused("a move", x, () -> x.move(0, 1), -4);
        Check.due("all ten are undone", x.undo(10), 0);
        Check.due("all is as it was", Check.seen(x) == first);
    }

    private static void triggersUndone() {
        GroupLimits x = Check.small();
        x.limit(3, 2, 0);
        x.trigger(3, 4, 2);
        x.trigger(3, 3, 1);
        x.charge(2, ANON, 8);
        x.tick(2);
        Check.due("they FIRED", x.fired(0, 0) * 10 + x.fired(1, 0), 11);
        x.undo(1);
        Check.due("they didn't", x.fired(0, 0) * 10 + x.fired(1, 0), 0);
        x.forget();
        x.trigger(0, 40, 40);
        x.trigger(0, 40, 39);
        x.undo(3);
        x.tick(1);
        Check.due("windows and n are as they were", x.fired(0, 0) * 10 + x.fired(1, 0), 1);
        x.tick(1);
        Check.due("windows and n are as they were", x.fired(0, 0) * 10 + x.fired(1, 0), 11);
        x.tick(2);
        x.undo(3);
        x.image(0);
        x.forget();
        x.trigger(3, 40, 40);
        x.trigger(3, 1, 1);
        x.tick(5);
        x.restore(0);
        Check.due("in an IMAGE, too", x.fired(0, 0) * 10 + x.fired(1, 0), 0);
        x.tick(2);
        Check.due("in an IMAGE, too", x.fired(0, 0) * 10 + x.fired(1, 0), 11);
        x.tick(2);
        x.charge(2, ANON, 4);
        x.tick(1);
        Check.due("2 of 4 again, 1 of 3 still", x.fired(0, 0) * 10 + x.fired(1, 0), 11);
    }

    private static void undoneAsAWhole() {
        GroupLimits x = Check.flat(3);
        x.swap(9);
        x.limit(1, 3, 30);
        x.charge(0, CACHE, 5);
        x.charge(1, ANON, 20);
        x.charge(2, ANON, 5);
        long before = Check.seen(x);
        Check.due("it takes, swaps and kills", x.charge(2, ANON, 24), 2);
        Check.due("as one", x.undo(1), 9);
        Check.due("all is as it was", Check.seen(x) == before);
        Check.due("many TICKS", x.tick(40), 40);
        Check.due("as one", x.undo(1), 9);
        Check.due("all is as it was", Check.seen(x) == before);
    }

    private static void images() {
        Check.says(0, "IMAGES 0 to 1: the same (none at first);");
        GroupLimits x = busy();
        Check.refused("none at first", x, () -> x.restore(0), -6);
        Check.refused("none at first", x, () -> x.restore(1), -6);
        Check.refused("IMAGE -1", x, () -> x.image(-1), -2);
        Check.refused("IMAGE 2", x, () -> x.image(2), -2);
        Check.refused("IMAGE -1", x, () -> x.restore(-1), -2);
        Check.refused("IMAGE 2", x, () -> x.restore(2), -2);
        long[] states = new long[2];
        for (int i = 0; i < 2; i++) {
            states[i] = Check.seen(x);
            Check.told("image", x, () -> x.image(1), 0);
            x.image(i);
            for (int c = 0; c < CALLS; c++) {
                change(x, c);
            }
        }
        for (int i = 0; i < 4; i++) {
            Check.due("restore", x.restore(i % 2), 0);
            Check.due("all is as it was", Check.seen(x) == states[i % 2]);
            change(x, 13);
            change(x, 2);
        }
    }

    private static void nothingBehindAnImage() {
        Check.says(0, "nothing can be UNDONE behind.");
        GroupLimits x = busy();
        x.image(0);
        Check.due("ten", x.count(6), 10);
        x.restore(0);
        Check.due("none behind it", x.count(6), 0);
        Check.refused("undo", x, () -> x.undo(1), -3);
        x.cap(7);
        x.cap(8);
        Check.due("what comes behind it can be", x.count(6), 2);
        Check.refused("not over it", x, () -> x.undo(3), -3);
        Check.due("undo", x.undo(2) * 100 + x.count(12), 10);
    }

    private static void codes() {
        Check.says(0, "Refused calls answer by a code and change nothing: -2 there is none such; -3 a number can't be; -4 no room, too"
            + " many; -5 it can't be now; -6 no IMAGE was made.");
        GroupLimits x = busy();
        Check.refused("none such", x, () -> x.kill(9), -2);
        Check.refused("none such", x, () -> x.kill(Integer.MAX_VALUE), -2);
        Check.refused("none such", x, () -> x.drain(Integer.MIN_VALUE), -2);
        Check.refused("a number can't be", x, () -> x.tick(0), -3);
        Check.refused("a number can't be", x, () -> x.tick(Integer.MIN_VALUE), -3);
        Check.refused("a number can't be", x, () -> x.undo(Integer.MAX_VALUE), -3);
        Check.refused("no room", x, () -> x.uncharge(0, ANON, 99), -4);
        Check.refused("no room", x, () -> x.swap(2), -4);
        Check.refused("it can't be now", x, () -> x.remove(1), -5);
        Check.refused("it can't be now", x, () -> x.move(0, 1), -5);
        Check.refused("no IMAGE", x, () -> x.restore(1), -6);
    }

    private static void tellsFirst() {
        Check.says(0, "(Of several that which the call tells first;");
        GroupLimits x = busy();
        x.trigger(0, 1, 1);
        x.trigger(0, 1, 1);
        x.trigger(0, 1, 1);
        Check.refused("limit: no GROUP, no number", x, () -> x.limit(9, 3, -1), -2);
        Check.refused("limit: no such what, no number", x, () -> x.limit(1, 9, -1), -2);
        Check.refused("process: no GROUP, no ADJ", x, () -> x.process(9, 99), -2);
        Check.refused("charge: no PROCESS, no kind", x, () -> x.charge(9, 2, 0), -2);
        Check.refused("uncharge: no PROCESS, no kind", x, () -> x.uncharge(9, 2, 0), -2);
        Check.refused("uncharge: no n, not so many", x, () -> x.uncharge(0, CACHE, 100), -3);
        Check.refused("use: no PROCESS, no n", x, () -> x.use(9, 0), -2);
        Check.refused("work: no PROCESS, no n", x, () -> x.work(9, 0), -2);
        Check.refused("move: no PROCESS, it is there", x, () -> x.move(9, 1), -2);
        Check.refused("take: no GROUP, no n", x, () -> x.take(9, 0), -2);
        Check.refused("trigger: no GROUP, no w, there are 4", x, () -> x.trigger(9, 0, 0), -2);
        Check.refused("trigger: no w, there are 4", x, () -> x.trigger(0, 0, 1), -3);
        Check.refused("share: not BELOW r, no LEVEL", x, () -> x.share(3, 1, 2), -2);
        Check.refused("spare: not BELOW r, no kind", x, () -> x.spare(3, 1, 0, 2), -2);
        Check.refused("next: no GROUP, no LEVEL", x, () -> x.next(9, 2, 2), -2);
        Check.refused("pressure: no GROUP, no kind", x, () -> x.pressure(9, 3, 0), -2);
        Check.refused("average: no GROUP, no kind", x, () -> x.average(9, 3, 3), -2);
        Check.refused("stalls: no GROUP, no kind", x, () -> x.stalls(9, 3), -2);
        Check.refused("deaths: no GROUP, no v", x, () -> x.deaths(9, -1), -2);
        Check.refused("taken: not BELOW r, no n", x, () -> x.taken(3, 1, 0, 0), -2);
        Check.refused("taken: no such what, no n", x, () -> x.taken(2, 1, 0, 2), -2);
        Check.refused("weigh: the ROOT, no u", x, () -> x.weigh(0, 0), -2);
        Check.refused("would: no PROCESS, no kind", x, () -> x.would(9, 2, 0), -2);
        Check.refused("burst: no PROCESS, no kind", x, () -> x.burst(9, 2), -2);
        Check.refused("stalled: no PROCESS, no kind", x, () -> x.stalled(9, 2, 0), -2);
        for (int g = 5; g < 12; g++) {
            x.group(0);
        }
        for (int p = 3; p < 16; p++) {
            x.process(0, 0);
        }
        Check.refused("group: no PARENT, there are 12", x, () -> x.group(12), -2);
        Check.refused("process: no ADJ, there are 16", x, () -> x.process(0, 11), -3);
        Check.refused("fork: no PROCESS, there are 16", x, () -> x.fork(16), -2);
        Check.refused("restore: no such IMAGE, none was made", x, () -> x.restore(2), -2);
        Check.refused("swap: no s, OUT is more", x, () -> x.swap(-1), -3);
    }

    private static void aheadOfNone() {
        Check.says(0, "all these ahead of NONE.)");
        GroupLimits x = new GroupLimits();
        x.process(0, -10);
        Check.told("NONE has SPARE", x, () -> x.next(0, 0, 0), -1);
        Check.refused("next: no LEVEL", x, () -> x.next(0, 2, 0), -3);
        Check.refused("next: no GROUP", x, () -> x.next(1, 0, 0), -2);
        Check.told("no victim", x, () -> x.victim(0), -1);
        Check.refused("victim: no GROUP", x, () -> x.victim(1), -2);
        Check.told("no place", x, () -> x.place(0), -1);
        Check.refused("place: no PROCESS", x, () -> x.place(1), -2);
        x.group(0);
        Check.told("no WEIGHT", x, () -> x.weigh(1, 1), -1);
        Check.refused("weigh: no u", x, () -> x.weigh(1, 0), -3);
        x.limit(0, 3, 0);
        Check.told("it is refused", x, () -> x.stalled(0, 0, 1), -1);
        Check.refused("stalled: no n", x, () -> x.stalled(0, 0, 0), -3);
        Check.refused("stalled: no PROCESS", x, () -> x.stalled(1, 0, 1), -2);
    }
}
