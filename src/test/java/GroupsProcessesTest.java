/** Promises 1 to 20: what is told of groups and processes. */
public final class GroupsProcessesTest {
    private static final int[] WRONG = {-1, 12, 16, Integer.MIN_VALUE, Integer.MAX_VALUE};

    private GroupsProcessesTest() {
    }

    private static void due(int promise, String call, int got, int want) {
        Check.due(promise, call, got, want);
    }

    public static void main(String[] args) {
        aNewObject();
        group();
        groupIsAsAtFirst();
        remove();
        removeForgetsTriggers();
        limitNumbers();
        limitTakes();
        limitKills();
        limitRefused();
        removeFromTheMiddle();
        process();
        processIsAsAtFirst();
        processUnderPids();
        fork();
        chargeFromStock();
        chargeTakes();
        chargeKills();
        chargeRefused();
        chargeHigh();
        chargeWrong();
        uncharge();
        use();
        useAtMax();
        work();
        move();
        moveTakes();
        moveRefused();
        kill();
        take();
        takeByLevels();
        takeWithinSwap();
        drain();
        settings();
        tick();
        tickQuota();
        trigger();
        deepest();
        Check.end("groups, processes");
    }

    private static void aNewObject() {
        GroupLimits x = new GroupLimits();
        int[] counts = {1, 0, 0, 0, 4, 0, 0, 0, 0, 0, 0, 0, 10};
        for (int what = 0; what < counts.length; what++) {
            due(1, "count " + what, x.count(what), counts[what]);
        }
        int[] root = {0, 0, 999, 999, 0, 999, 1, 99, 16, -1, 0, 0, 0, 0, 0, 0};
        for (int what = 0; what < root.length; what++) {
            due(1, "of " + what, x.of(0, what), root[what]);
        }
        for (int p = 0; p < 16; p++) {
            due(1, "proc", x.proc(p, 0), -99);
        }
        for (int g = 1; g < 12; g++) {
            due(1, "of", x.of(g, 0), -2);
        }
        due(1, "NONE", GroupLimits.NONE, -1);
    }

    private static void group() {
        GroupLimits x = new GroupLimits();
        for (int g : WRONG) {
            due(2, "group of none", x.group(g), -2);
        }
        for (int g = 1; g < 12; g++) {
            due(2, "group", x.group(g - 1), g);
        }
        due(2, "a 13th group", x.group(0), -4);
        due(2, "a 13th group of none", x.group(12), -2);
        due(2, "below", x.below(5), 0xFE0);
        due(2, "remove", x.remove(11), 10);
        due(2, "group", x.group(3), 11);
        due(2, "its parent", x.of(11, 9), 3);
        due(2, "remove", x.remove(10), 9);
        due(2, "remove", x.remove(9), 8);
        due(2, "the lowest free", x.group(11), 9);
        due(2, "below a parent of a higher number", x.below(11), 0xA00);
        due(2, "refused calls can't be undone", x.count(6), 10);
    }

    private static void groupIsAsAtFirst() {
        GroupLimits x = new GroupLimits();
        x.group(0);
        x.process(1, 0);
        x.limit(1, 3, 5);
        x.charge(0, 1, 5);
        due(2, "charge", x.charge(0, 1, 2), 1);
        x.limit(1, 2, 4);
        due(2, "uncharge", x.uncharge(0, 1, 4), 0);
        due(2, "charge", x.charge(0, 0, 4), 0);
        due(2, "charge", x.charge(0, 0, 1), 0);
        due(2, "stall", x.proc(0, 4), 1);
        x.work(0, 5);
        x.tick(2);
        due(2, "got", x.of(1, 15), 5);
        due(2, "stalls", x.stalls(1, 0), 1);
        due(2, "kill", x.kill(0), 5);
        int[] what = {3, 3, 3, 3, 1, 3, 3, 3, 3};
        for (int i = 0; i < what.length; i++) {
            x.limit(1, i, what[i]);
        }
        due(2, "remove", x.remove(1), 0);
        due(2, "of a group that is no more", x.of(1, 0), -2);
        due(2, "group", x.group(0), 1);
        int[] first = {0, 0, 999, 999, 0, 999, 1, 99, 16, 0, 0, 0, 0, 0, 0, 0};
        for (int i = 0; i < first.length; i++) {
            due(2, "of " + i, x.of(1, i), first[i]);
        }
        for (int i = 0; i < 9; i++) {
            due(2, "events", x.events(1, i % 4), 0);
            due(2, "average", x.average(1, i % 3, i / 3), 0);
            due(2, "pressure", x.pressure(1, i % 3, 40), 0);
            due(2, "stalls", x.stalls(1, i % 3), 0);
        }
    }

    private static void remove() {
        GroupLimits x = new GroupLimits();
        x.group(0);
        x.group(1);
        x.process(2, 0);
        for (int g : WRONG) {
            due(3, "remove none", x.remove(g), -2);
        }
        due(3, "remove none", x.remove(3), -2);
        due(3, "remove the root", x.remove(0), -5);
        due(3, "it has a child", x.remove(1), -5);
        due(3, "it has a process", x.remove(2), -5);
        x.charge(0, 0, 1);
        due(3, "kill", x.kill(0), 1);
        due(3, "the stock", x.of(1, 12), 3);
        due(3, "remove", x.remove(2), 1);
        due(3, "the stock is given back", x.of(1, 12), 0);
        due(3, "the stock is given back", x.count(3), 0);
        due(3, "remove again", x.remove(2), -2);
        due(3, "remove", x.remove(1), 0);
        due(3, "groups", x.count(0), 1);
        due(3, "remove the last", x.remove(0), -5);
    }

    private static void removeForgetsTriggers() {
        GroupLimits x = new GroupLimits();
        x.group(0);
        x.group(0);
        x.process(2, 0);
        x.trigger(1, 1, 1);
        x.trigger(2, 2, 1);
        x.trigger(1, 3, 1);
        x.trigger(0, 4, 1);
        x.limit(2, 2, 0);
        x.charge(0, 0, 4);
        x.tick(1);
        due(3, "remove", x.remove(1), 0);
        due(3, "triggers", x.count(5), 2);
        due(3, "the second came forward", x.fired(0, 1), 2);
        due(3, "as it was", x.fired(0, 0), 1);
        due(3, "the fourth came forward", x.fired(1, 1), 0);
        due(3, "as it was", x.fired(1, 0), 1);
        due(3, "none", x.fired(2, 1), -2);
        due(3, "trigger", x.trigger(2, 1, 1), 2);
        x.forget();
        x.group(0);
        x.trigger(1, 1, 1);
        x.trigger(2, 7, 3);
        x.remove(1);
        x.uncharge(0, 0, 4);
        x.charge(0, 0, 8);
        x.tick(1);
        due(3, "it needs three", x.fired(0, 0), 0);
        x.tick(1);
        due(3, "three of seven", x.fired(0, 0), 1);
        x.undo(3);
        due(3, "undone", x.fired(0, 0), 0);
        x.tick(2);
        due(3, "three of seven", x.fired(0, 0), 0);
    }

    private static void removeFromTheMiddle() {
        GroupLimits x = Check.small();
        x.kill(1);
        due(3, "remove", x.remove(2), 1);
        due(3, "below", x.below(0), 11);
        due(3, "below", x.below(1), 2);
        x.charge(2, 1, 8);
        x.limit(3, 1, 5);
        due(3, "the others stay", x.spare(3, 0, 0, 1), 3);
        due(3, "group", x.group(3), 2);
        due(3, "its new parent", x.below(3), 12);
        x.move(0, 2);
        due(3, "remove", x.remove(1), 0);
        due(3, "below", x.below(0), 13);
        due(3, "procs", x.procs(3), 5);
    }

    private static void limitNumbers() {
        GroupLimits x = Check.small();
        x.charge(0, 1, 10);
        x.charge(0, 0, 6);
        for (int g : WRONG) {
            due(4, "limit of none", x.limit(g, 0, 0), -2);
            due(4, "limit of none", x.limit(g, 9, -1), -2);
        }
        due(4, "what", x.limit(1, 9, 0), -2);
        due(4, "what", x.limit(1, -1, 0), -2);
        due(4, "what ahead of v", x.limit(1, 9, 1000), -2);
        int[] least = {0, 0, 0, 0, 0, 0, 1, 0, 0};
        int[] most = {999, 999, 999, 999, 1, 999, 9, 99, 16};
        for (int what = 0; what < 9; what++) {
            due(4, "v", x.limit(1, what, least[what] - 1), -3);
            due(4, "v", x.limit(1, what, most[what] + 1), -3);
            due(4, "v", x.limit(1, what, Integer.MIN_VALUE), -3);
            if (what != 2 && what != 3) {
                due(4, "limit", x.limit(1, what, least[what]), 16);
                due(4, "is v", x.of(1, what), least[what]);
            }
            due(4, "limit", x.limit(1, what, most[what]), 16);
            due(4, "is v", x.of(1, what), most[what]);
        }
        due(4, "of the root", x.limit(0, 6, 5), 16);
        due(4, "pids below what there is", x.limit(1, 8, 0), 16);
    }

    private static void limitTakes() {
        GroupLimits x = Check.small();
        x.charge(0, 1, 10);
        x.charge(0, 0, 6);
        due(4, "limit HIGH", x.limit(1, 2, 12), 12);
        due(4, "cache went", x.proc(0, 3), 6);
        due(4, "no HIGH event", x.events(1, 1), 0);
        due(4, "no LOW event", x.events(1, 0), 0);
        due(4, "limit HIGH lower than can be", x.limit(1, 2, 3), 6);
        due(4, "it is", x.of(1, 2), 3);
        due(4, "a LOW event", x.events(1, 0), 1);
        due(4, "no stall", x.proc(0, 4), 0);
        x.swap(4);
        due(4, "limit MAX", x.limit(1, 3, 2), 2);
        due(4, "anon went to swap", x.proc(0, 6), 4);
        due(4, "no MAX event", x.events(1, 2), 0);
        due(4, "limit SWAPMAX below OUT", x.limit(1, 5, 1), 2);
        due(4, "OUT stays", x.of(1, 14), 4);
        GroupLimits y = new GroupLimits();
        y.group(0);
        y.process(1, 0);
        y.charge(0, 1, 1);
        due(4, "TOTAL with STOCK", y.of(1, 12), 4);
        due(4, "STOCKS first", y.limit(1, 3, 3), 1);
        due(4, "cache stays", y.proc(0, 3), 1);
        due(4, "no LOW event", y.events(1, 0), 0);
    }

    private static void limitKills() {
        GroupLimits x = new GroupLimits();
        x.batch(1);
        x.group(0);
        x.process(1, 0);
        x.process(1, 0);
        x.process(1, 1);
        x.charge(0, 0, 10);
        x.charge(1, 0, 20);
        x.charge(2, 0, 5);
        due(4, "limit MAX", x.limit(1, 3, 12), 10);
        due(4, "who is left", x.procs(0), 1);
        due(4, "KILL events", x.events(1, 3), 2);
        due(4, "LOW event", x.events(1, 0), 1);
        due(4, "no MAX event", x.events(1, 2), 0);
        due(4, "limit MAX 0", x.limit(1, 3, 0), 0);
        due(4, "all died", x.procs(0), 0);
        due(4, "KILL events", x.events(1, 3), 3);
    }

    private static void limitRefused() {
        GroupLimits x = new GroupLimits();
        x.batch(1);
        x.group(0);
        x.process(1, -10);
        x.process(1, 0);
        x.charge(0, 0, 8);
        x.charge(1, 1, 4);
        int can = x.count(6);
        due(4, "no victim", x.limit(1, 3, 5), -4);
        due(4, "MAX stays", x.of(1, 3), 999);
        due(4, "TOTAL stays", x.of(1, 12), 12);
        due(4, "nobody died", x.procs(1), 3);
        due(4, "no events", x.events(1, 0) + x.events(1, 3), 0);
        due(4, "nothing to undo", x.count(6), can);
        due(4, "with a victim", x.limit(1, 3, 8), 8);
        due(4, "by cache alone", x.procs(1), 3);
    }

    private static void process() {
        GroupLimits x = new GroupLimits();
        x.group(0);
        for (int g : WRONG) {
            due(5, "process in none", x.process(g, 0), -2);
            due(5, "process in none", x.process(g, 11), -2);
        }
        due(5, "adj", x.process(1, 11), -3);
        due(5, "adj", x.process(1, -11), -3);
        due(5, "process", x.process(1, 10), 0);
        due(5, "process", x.process(0, -10), 1);
        int[] first = {1, 10, 0, 0, 0, 100, 0, 0, 0};
        int[] second = {0, -10, 0, 0, 0, -100, 0, 0, 0};
        for (int what = 0; what < 9; what++) {
            due(5, "proc 0 " + what, x.proc(0, what), first[what]);
            due(5, "proc 1 " + what, x.proc(1, what), second[what]);
        }
        x.kill(0);
        due(5, "the lowest free", x.process(0, 0), 0);
        for (int p = 2; p < 16; p++) {
            due(5, "process", x.process(1, 0), p);
        }
        due(5, "a 17th", x.process(1, 0), -4);
        due(5, "adj first", x.process(1, 11), -3);
        due(5, "procs", x.procs(0), 0xFFFF);
        due(5, "procs", x.procs(1), 0xFFFC);
    }

    private static void processIsAsAtFirst() {
        GroupLimits x = Check.small();
        x.swap(20);
        x.charge(2, 0, 12);
        x.charge(2, 1, 5);
        x.take(3, 9);
        x.use(2, 2);
        x.work(2, 25);
        x.tick(2);
        x.use(2, 1);
        int[] is = {3, 0, 11, 0, 1, 12, 1, 15, 10};
        int[] anew = {1, 5, 0, 0, 0, 50, 0, 0, 0};
        for (int what = 0; what < 9; what++) {
            due(22, "proc " + what, x.proc(2, what), is[what]);
        }
        due(12, "kill", x.kill(2), 11);
        due(5, "process", x.process(1, 5), 2);
        for (int what = 0; what < 9; what++) {
            due(5, "without all that " + what, x.proc(2, what), anew[what]);
        }
        due(5, "nothing is out", x.count(11), 0);
        due(5, "nobody has to do", x.idle(), 0);
    }

    private static void processUnderPids() {
        GroupLimits x = Check.small();
        x.limit(1, 8, 2);
        due(5, "PIDS of its parent", x.process(2, 0), -4);
        due(5, "PIDS of it", x.process(1, 0), -4);
        due(5, "PIDS of others", x.process(3, 0), 3);
        x.limit(1, 8, 3);
        due(5, "PIDS has one more", x.process(2, 0), 4);
        due(5, "PIDS", x.process(2, 0), -4);
        x.limit(1, 8, 1);
        due(5, "more than PIDS", x.process(2, 0), -4);
        x.limit(1, 8, 16);
        x.limit(0, 8, 5);
        due(5, "PIDS of the root", x.process(3, 0), -4);
    }

    private static void fork() {
        GroupLimits x = Check.small();
        x.process(1, 3);
        x.charge(3, 0, 5);
        x.work(3, 4);
        due(6, "fork", x.fork(3), 4);
        int[] like = {1, 3, 0, 0, 0, 30, 0, 0, 0};
        for (int what = 0; what < 9; what++) {
            due(6, "proc " + what, x.proc(4, what), like[what]);
        }
        for (int p : new int[] {-1, 5, 16, Integer.MAX_VALUE, Integer.MIN_VALUE}) {
            due(6, "fork none", x.fork(p), -2);
        }
        x.kill(0);
        due(6, "the lowest free", x.fork(1), 0);
        due(6, "its group", x.proc(0, 0), 2);
        x.limit(1, 8, 4);
        due(6, "PIDS", x.fork(1), -4);
        due(6, "PIDS of others", x.fork(2), 5);
        x.limit(1, 8, 16);
        for (int p = 6; p < 16; p++) {
            due(6, "fork", x.fork(2), p);
        }
        due(6, "a 17th", x.fork(2), -4);
        due(6, "a 17th of none", x.fork(16), -2);
    }

    private static void chargeFromStock() {
        GroupLimits x = new GroupLimits();
        x.group(0);
        x.process(1, 0);
        x.process(0, 0);
        due(7, "a batch", x.charge(0, 0, 3), 0);
        due(7, "the rest", x.of(1, 11), 1);
        due(7, "more than the stock", x.charge(0, 1, 2), 0);
        due(7, "the rest comes to it", x.of(1, 11), 3);
        due(7, "TOTAL", x.of(0, 12), 8);
        due(7, "by the stock", x.charge(0, 1, 3), 0);
        due(7, "none left", x.of(1, 11), 0);
        due(7, "TOTAL stays", x.of(0, 12), 8);
        due(7, "anon", x.proc(0, 2), 3);
        due(7, "cache", x.proc(0, 3), 5);
        due(7, "as many as a batch", x.charge(0, 0, 4), 0);
        due(7, "no rest", x.of(1, 11), 0);
        due(7, "more than a batch", x.charge(0, 0, 99), 0);
        due(7, "no rest", x.of(1, 11), 0);
        due(7, "in the root", x.charge(1, 1, 1), 0);
        due(7, "its own stock", x.of(0, 11), 3);
        due(7, "not of the child", x.of(1, 11), 0);
        due(7, "TOTAL", x.of(0, 12), 115);
        x.limit(1, 3, 113);
        due(7, "n fits, the batch does not", x.charge(0, 0, 2), 0);
        due(7, "no stock by that", x.of(1, 11), 0);
        due(7, "no MAX event", x.events(1, 2), 0);
        due(7, "TOTAL", x.of(1, 12), 113);
    }

    private static void chargeTakes() {
        GroupLimits x = Check.small();
        x.limit(1, 3, 20);
        x.limit(2, 3, 10);
        x.charge(1, 1, 10);
        x.charge(0, 1, 10);
        due(7, "above MAX of its group", x.charge(1, 0, 4), 1);
        due(7, "its cache", x.proc(1, 3), 6);
        due(7, "its anon", x.proc(1, 2), 4);
        due(7, "MAX event", x.events(2, 2), 1);
        due(7, "none of the parent", x.events(1, 2), 0);
        due(7, "above MAX of the parent", x.charge(0, 0, 3), 1);
        due(7, "taken from the most spare", x.proc(0, 3), 7);
        due(7, "not from the other", x.proc(1, 3), 6);
        due(7, "both", x.charge(1, 0, 6), 1);
        due(7, "MAX event", x.events(2, 2), 2);
        due(7, "the parent has room by that", x.events(1, 2), 1);
        due(7, "its cache", x.proc(1, 3), 0);
        due(7, "TOTAL", x.of(1, 12), 20);
        GroupLimits y = new GroupLimits();
        y.group(0);
        y.process(1, 0);
        y.process(1, 0);
        y.limit(1, 3, 6);
        y.charge(0, 1, 2);
        due(7, "the stock is given back for it", y.charge(1, 0, 4), 1);
        due(7, "cache stays", y.proc(0, 3), 2);
        due(7, "the stock stays at none", y.of(1, 11), 0);
        due(7, "TOTAL", y.of(1, 12), 6);
    }

    private static void chargeKills() {
        GroupLimits x = Check.small();
        x.process(1, 0);
        x.limit(1, 3, 10);
        x.charge(0, 0, 4);
        x.charge(1, 0, 6);
        due(7, "another died", x.charge(0, 0, 1), 2);
        due(7, "who is left", x.procs(1), 9);
        due(7, "KILL event", x.events(1, 3), 1);
        due(7, "MAX event", x.events(1, 2), 1);
        due(7, "LOW event", x.events(1, 0), 1);
        due(7, "TOTAL", x.of(1, 12), 5);
        due(7, "the process died", x.charge(0, 0, 6), 3);
        due(7, "who is left", x.procs(1), 8);
        due(7, "TOTAL", x.of(1, 12), 0);
        due(7, "MAX events", x.events(1, 2), 2);
        due(7, "more than MAX", x.charge(3, 1, 11), 3);
        due(7, "who is left", x.procs(0), 4);
        GroupLimits y = Check.small();
        y.limit(1, 3, 10);
        y.process(1, 0);
        y.charge(1, 0, 5);
        y.charge(0, 0, 4);
        y.charge(3, 0, 1);
        due(7, "two die, one by one", y.charge(3, 0, 9), 2);
        due(7, "who is left", y.procs(1), 8);
        due(7, "a MAX event each time", y.events(1, 2), 2);
        due(7, "KILL events", y.events(1, 3), 2);
        GroupLimits z = Check.small();
        z.limit(2, 4, 1);
        z.process(2, -10);
        z.process(2, -9);
        z.limit(1, 3, 30);
        z.charge(1, 0, 25);
        z.charge(0, 0, 5);
        due(7, "a whole group dies", z.charge(0, 0, 2), 2);
        due(7, "but for ADJ -10", z.procs(1), 9);
        due(7, "KILL events", z.events(1, 3), 2);
        due(7, "of the one that was above", z.events(2, 3), 0);
    }

    private static void chargeRefused() {
        GroupLimits x = new GroupLimits();
        x.batch(1);
        x.group(0);
        x.process(1, -10);
        x.process(1, 0);
        x.limit(1, 3, 10);
        x.charge(0, 0, 4);
        x.charge(1, 1, 6);
        int can = x.count(6);
        due(7, "refused", x.charge(0, 0, 7), -4);
        due(7, "nobody died", x.procs(1), 3);
        due(7, "nothing was taken", x.proc(1, 3), 6);
        due(7, "no events", x.events(1, 0) + x.events(1, 2) + x.events(1, 3), 0);
        due(7, "nothing to undo", x.count(6), can);
        due(7, "just so many", x.charge(0, 0, 6), 1);
    }

    private static void chargeHigh() {
        GroupLimits x = Check.small();
        x.limit(1, 2, 4);
        x.limit(2, 2, 6);
        due(7, "above both HIGH", x.charge(1, 0, 10), 0);
        due(7, "stall by 4 and by 6", x.proc(1, 4), 3);
        due(7, "HIGH events", x.events(1, 1) * 10 + x.events(2, 1), 11);
        due(7, "LOW events", x.events(1, 0) * 10 + x.events(2, 0), 11);
        due(7, "cache goes", x.charge(1, 1, 2), 0);
        due(7, "stall by 4 and by 6 more", x.proc(1, 4), 6);
        due(7, "no cache stays", x.proc(1, 3), 0);
        due(7, "a stall of others", x.proc(0, 4), 0);
        due(7, "20 at most", x.charge(1, 0, 99), 0);
        due(7, "20 at most", x.proc(1, 4), 20);
        GroupLimits y = new GroupLimits();
        y.group(0);
        y.process(1, 0);
        y.limit(1, 2, 3);
        due(7, "above by the batch", y.charge(0, 0, 3), 0);
        due(7, "HIGH event", y.events(1, 1), 1);
        due(7, "its stock went", y.of(1, 12), 3);
        due(7, "no stall", y.proc(0, 4), 0);
        y.limit(1, 2, 999);
        y.charge(0, 0, 2);
        y.limit(1, 2, 6);
        due(7, "TOTAL", y.of(1, 12), 5);
        y.charge(0, 1, 3);
        due(7, "one above", y.events(1, 1), 2);
        due(7, "TOTAL", y.of(1, 12), 6);
        y.limit(1, 2, 10);
        y.charge(0, 0, 4);
        due(7, "as many as HIGH isn't above", y.events(1, 1), 2);
        due(7, "TOTAL", y.of(1, 12), 10);
        GroupLimits z = new GroupLimits();
        z.group(0);
        z.process(1, 0);
        z.charge(0, 0, 1);
        z.limit(1, 2, 0);
        due(7, "limit gave the stock back", z.of(1, 12), 1);
        due(7, "HIGH behind the stock, too", z.charge(0, 0, 1), 0);
        due(7, "HIGH event", z.events(1, 1), 1);
        due(7, "stall", z.proc(0, 4), 1);
    }

    private static void chargeWrong() {
        GroupLimits x = Check.small();
        x.charge(0, 0, 50);
        for (int p : new int[] {-1, 3, 16, Integer.MAX_VALUE, Integer.MIN_VALUE}) {
            due(7, "charge of none", x.charge(p, 5, 0), -2);
            due(8, "uncharge of none", x.uncharge(p, 5, 0), -2);
            due(9, "use of none", x.use(p, 0), -2);
            due(10, "work of none", x.work(p, 0), -2);
            due(11, "move of none", x.move(p, 0), -2);
            due(12, "kill none", x.kill(p), -2);
        }
        for (int kind : new int[] {-1, 2, Integer.MAX_VALUE, Integer.MIN_VALUE}) {
            due(7, "kind", x.charge(0, kind, 1), -3);
            due(8, "kind", x.uncharge(0, kind, 1), -3);
        }
        for (int n : new int[] {0, -1, 100, Integer.MAX_VALUE, Integer.MIN_VALUE}) {
            due(7, "n", x.charge(0, 0, n), -3);
            due(8, "n", x.uncharge(0, 0, n), -3);
            due(9, "n", x.use(0, n), -3);
        }
        due(7, "TOTAL stays", x.count(3), 50);
    }

    private static void uncharge() {
        GroupLimits x = new GroupLimits();
        x.group(0);
        x.process(1, 0);
        x.charge(0, 0, 10);
        x.charge(0, 1, 5);
        due(8, "uncharge", x.uncharge(0, 0, 4), 6);
        due(8, "stock", x.of(1, 11), 4);
        due(8, "TOTAL stays", x.of(0, 12), 15);
        due(8, "uncharge", x.uncharge(0, 1, 1), 4);
        due(8, "all of the stock is given back", x.of(1, 11), 0);
        due(8, "TOTAL", x.of(0, 12), 10);
        due(8, "it hasn't so many", x.uncharge(0, 1, 5), -4);
        due(8, "uncharge", x.uncharge(0, 1, 4), 0);
        due(8, "it has none", x.uncharge(0, 1, 1), -4);
        due(8, "stock", x.of(1, 11), 4);
        x.batch(2);
        due(8, "stocks stay by batch()", x.of(1, 11), 4);
        due(8, "uncharge", x.uncharge(0, 0, 1), 5);
        due(8, "above BATCH as it is", x.of(1, 11), 0);
        due(8, "TOTAL", x.of(1, 12), 5);
    }

    private static void use() {
        GroupLimits x = Check.small();
        x.charge(0, 0, 10);
        x.swap(20);
        due(9, "take", x.take(1, 8), 8);
        due(9, "swapped", x.proc(0, 6), 8);
        due(9, "more than swapped", x.use(0, 9), -3);
        due(9, "use", x.use(0, 5), 0);
        due(9, "anon", x.proc(0, 2), 7);
        due(9, "swapped", x.proc(0, 6), 3);
        due(9, "OUT", x.of(1, 14), 3);
        due(9, "stall cut up", x.proc(0, 4), 2);
        due(9, "use", x.use(0, 3), 0);
        due(9, "stall", x.proc(0, 4), 3);
        due(9, "none swapped", x.use(0, 1), -3);
        x.charge(0, 0, 90);
        x.swap(999);
        x.take(1, 100);
        due(9, "use", x.use(0, 99), 0);
        due(9, "20 at most", x.proc(0, 4), 20);
    }

    private static void useAtMax() {
        GroupLimits x = Check.small();
        x.process(3, -10);
        x.charge(0, 0, 10);
        x.charge(3, 0, 10);
        x.swap(6);
        x.take(1, 3);
        x.take(3, 3);
        x.limit(1, 3, 7);
        x.limit(3, 3, 7);
        due(9, "no swap is left", x.use(0, 1), 3);
        due(9, "it died", x.procs(1), 2);
        due(9, "OUT", x.count(11), 3);
        x.kill(2);
        x.swap(3);
        int can = x.count(6);
        due(9, "refused", x.use(3, 2), -4);
        due(9, "nothing changed", x.proc(3, 6) * 10 + x.proc(3, 4), 30);
        due(9, "nothing to undo", x.count(6), can);
        x.swap(9);
        due(9, "it goes out for it", x.use(3, 2), 1);
        due(9, "swapped", x.proc(3, 6), 3);
        due(9, "stall", x.proc(3, 4), 1);
    }

    private static void work() {
        GroupLimits x = Check.small();
        due(10, "work", x.work(0, 1), 1);
        due(10, "more", x.work(0, 500), 501);
        due(10, "999 at most", x.work(0, 999), 999);
        due(10, "999 at most", x.work(0, 1), 999);
        due(10, "TODO", x.proc(0, 7), 999);
        due(10, "of others", x.proc(1, 7), 0);
        for (int n : new int[] {0, -1, 1000, Integer.MAX_VALUE, Integer.MIN_VALUE}) {
            due(10, "n", x.work(0, n), -3);
        }
    }

    private static void move() {
        GroupLimits x = new GroupLimits();
        x.group(0);
        x.group(0);
        x.process(1, 0);
        x.charge(0, 0, 8);
        x.swap(5);
        x.take(1, 3);
        x.charge(0, 1, 1);
        x.work(0, 7);
        for (int g : WRONG) {
            due(11, "move to none", x.move(0, g), -2);
        }
        due(11, "it is there", x.move(0, 1), -5);
        due(11, "move", x.move(0, 2), 1);
        due(11, "its group", x.proc(0, 0), 2);
        due(11, "the stock stays", x.of(1, 12), 3);
        due(11, "its pages came", x.of(2, 12), 6);
        due(11, "TOTAL of the root", x.of(0, 12), 9);
        due(11, "OUT went", x.of(1, 14), 0);
        due(11, "OUT came", x.of(2, 14), 3);
        due(11, "TODO", x.proc(0, 7), 7);
        due(11, "it is there", x.move(0, 2), -5);
        due(11, "to the root", x.move(0, 0), 2);
        due(11, "TOTAL", x.of(2, 12), 0);
        due(11, "TOTAL of the root", x.of(0, 12), 9);
    }

    private static void moveTakes() {
        GroupLimits x = Check.small();
        x.charge(2, 0, 6);
        x.charge(1, 1, 8);
        x.charge(0, 1, 5);
        x.limit(2, 3, 10);
        x.limit(1, 3, 18);
        due(11, "move", x.move(2, 2), 3);
        due(11, "taken from the new one", x.proc(1, 3), 4);
        due(11, "its MAX event", x.events(2, 2), 1);
        due(11, "its parent has room then", x.events(1, 2), 0);
        due(11, "TOTAL", x.of(1, 12), 15);
        x.move(2, 3);
        x.charge(0, 1, 8);
        due(11, "TOTAL", x.of(1, 12), 17);
        due(11, "move", x.move(2, 2), 3);
        due(11, "taken from the parent", x.proc(0, 3), 8);
        due(11, "MAX event of the parent", x.events(1, 2), 1);
        due(11, "not of the new one", x.events(2, 2), 1);
        x.limit(0, 3, x.of(0, 12));
        due(11, "MAX of both paths isn't looked at", x.move(2, 3), 2);
        due(11, "no event", x.events(0, 2), 0);
    }

    private static void moveRefused() {
        GroupLimits x = Check.small();
        x.charge(2, 0, 6);
        x.charge(1, 1, 3);
        x.charge(1, 0, 5);
        x.limit(2, 3, 10);
        int can = x.count(6);
        due(11, "above still", x.move(2, 2), -4);
        due(11, "nothing was taken", x.proc(1, 3), 3);
        due(11, "no event", x.events(2, 2), 0);
        due(11, "nothing to undo", x.count(6), can);
        x.limit(2, 3, 999);
        x.limit(1, 8, 2);
        due(11, "PIDS of the parent", x.move(2, 2), -4);
        due(11, "PIDS of both paths isn't looked at", x.move(0, 2), 1);
        x.limit(1, 8, 16);
        x.limit(2, 8, 2);
        due(11, "PIDS", x.move(2, 2), -4);
        due(11, "not its", x.move(2, 1), 3);
        x.move(2, 3);
        x.limit(2, 8, 3);
        x.swap(9);
        x.take(3, 4);
        x.limit(2, 5, 3);
        due(11, "SWAPMAX", x.move(2, 2), -4);
        x.limit(2, 5, 4);
        x.limit(1, 5, 3);
        due(11, "SWAPMAX of the parent", x.move(2, 2), -4);
        x.limit(1, 5, 4);
        due(11, "just so many", x.move(2, 2), 3);
        x.use(2, 3);
        x.move(2, 3);
        x.limit(2, 5, 0);
        due(11, "one SWAPPED", x.move(2, 2), -4);
        x.limit(2, 5, 1);
        due(11, "one SWAPPED", x.move(2, 2), 3);
        x.limit(1, 5, 0);
        x.move(1, 3);
        due(11, "none SWAPPED, SWAPMAX isn't looked at", x.move(1, 1), 3);
    }

    private static void kill() {
        GroupLimits x = Check.small();
        x.batch(4);
        x.limit(1, 4, 1);
        x.charge(0, 0, 5);
        x.charge(0, 1, 3);
        x.charge(1, 1, 2);
        due(12, "kill", x.kill(0), 8);
        due(12, "alone", x.procs(0), 6);
        due(12, "no event", x.events(1, 3), 0);
        due(12, "no stock by that", x.of(1, 12), 5);
        due(12, "none such", x.kill(0), -2);
        due(12, "one without pages", x.kill(2), 0);
        due(12, "ADJ -10", x.process(0, -10), 0);
        due(12, "dies by it", x.kill(0), 0);
    }

    private static void take() {
        GroupLimits x = Check.small();
        for (int g : WRONG) {
            due(13, "take from none", x.take(g, 0), -2);
        }
        for (int n : new int[] {0, -1, 1000, Integer.MAX_VALUE, Integer.MIN_VALUE}) {
            due(13, "n", x.take(0, n), -3);
        }
        x.charge(0, 1, 10);
        x.charge(2, 1, 8);
        due(13, "take", x.take(0, 10), 10);
        due(13, "4, then 2", x.proc(0, 3), 4);
        due(13, "4 in between", x.proc(2, 3), 4);
        due(13, "no LOW event", x.events(0, 0), 0);
        due(13, "like ones: the lowest", x.take(0, 1), 1);
        due(13, "the lowest", x.proc(0, 3), 3);
        x.process(1, 0);
        x.charge(3, 1, 6);
        due(13, "of the process with the most", x.take(1, 3), 3);
        due(13, "the most", x.proc(3, 3), 3);
        due(13, "like ones", x.take(1, 2), 2);
        due(13, "the lowest", x.proc(0, 3), 1);
        due(13, "no more than its cache", x.take(1, 4), 4);
        due(13, "all but none", x.of(1, 12), 0);
        due(13, "no LOW event", x.events(1, 0), 0);
        due(13, "nothing is left", x.take(1, 1), 0);
        due(13, "LOW event", x.events(1, 0), 1);
        due(13, "the rest", x.take(0, 999), 4);
        due(13, "LOW event", x.events(0, 0), 1);
        GroupLimits y = new GroupLimits();
        y.group(0);
        y.process(1, 0);
        y.charge(0, 1, 1);
        due(13, "STOCKS count", y.take(0, 1), 3);
        due(13, "cache stays", y.proc(0, 3), 1);
        due(13, "the rest", y.take(0, 1), 1);
        due(13, "none", y.count(3), 0);
    }

    private static void takeByLevels() {
        GroupLimits x = Check.small();
        x.limit(1, 1, 12);
        x.limit(1, 0, 4);
        x.charge(0, 1, 12);
        x.charge(2, 1, 3);
        x.charge(2, 0, 5);
        x.swap(4);
        due(13, "take", x.take(0, 5), 5);
        due(13, "cache that isn't protected", x.proc(2, 3), 0);
        due(13, "then anon", x.proc(2, 6), 2);
        due(13, "protected", x.proc(0, 3), 12);
        due(13, "no LOW event", x.events(0, 0), 0);
        due(13, "take", x.take(0, 7), 7);
        due(13, "anon until swap is full", x.proc(2, 6), 4);
        due(13, "then by MIN", x.proc(0, 3), 7);
        due(13, "LOW event of the one it is taken from", x.events(0, 0) * 10 + x.events(1, 0), 10);
        due(13, "down to MIN", x.take(0, 9), 3);
        due(13, "MIN stays", x.proc(0, 3), 4);
        due(13, "by itself it isn't protected", x.take(1, 4), 4);
        due(13, "no LOW event by that", x.events(1, 0), 0);
    }

    private static void takeWithinSwap() {
        GroupLimits x = Check.small();
        x.charge(0, 0, 10);
        x.charge(1, 0, 10);
        x.charge(2, 0, 10);
        x.swap(20);
        x.limit(2, 5, 3);
        x.limit(1, 5, 7);
        due(13, "take", x.take(0, 999), 17);
        due(13, "by SWAPMAX of the parent", x.of(1, 14), 7);
        due(13, "by SWAPMAX", x.of(2, 14) <= 3 ? 1 : 0, 1);
        due(13, "by its anon", x.of(3, 14), 10);
        due(13, "OUT", x.count(11), 17);
        x.limit(1, 5, 0);
        due(13, "OUT above SWAPMAX", x.take(0, 1), 0);
    }

    private static void drain() {
        GroupLimits x = new GroupLimits();
        x.group(0);
        x.group(1);
        x.process(1, 0);
        x.process(2, 0);
        x.process(0, 0);
        x.charge(0, 0, 1);
        x.charge(1, 0, 2);
        x.charge(2, 0, 3);
        for (int g : WRONG) {
            due(14, "drain none", x.drain(g), -2);
        }
        due(14, "drain", x.drain(2), 2);
        due(14, "of it alone", x.count(9), 4);
        due(14, "drain", x.drain(0), 4);
        due(14, "TOTAL", x.count(3), 6);
        due(14, "nothing is left", x.drain(0), 0);
        due(14, "it can be undone all the same", x.count(6), 10);
    }

    private static void settings() {
        GroupLimits x = Check.small();
        due(15, "batch", x.batch(8), 1);
        due(15, "batch", x.batch(1), 8);
        for (int b : new int[] {0, -1, 9, Integer.MAX_VALUE, Integer.MIN_VALUE}) {
            due(15, "b", x.batch(b), -3);
        }
        due(15, "BATCH", x.count(4), 1);
        due(16, "swap", x.swap(0), 0);
        due(16, "swap", x.swap(999), 0);
        due(16, "swap", x.swap(5), 999);
        x.charge(0, 0, 9);
        x.take(0, 3);
        for (int s : new int[] {-1, 1000, Integer.MAX_VALUE, Integer.MIN_VALUE}) {
            due(16, "s", x.swap(s), -3);
        }
        due(16, "OUT is more", x.swap(2), -4);
        due(16, "as many as OUT", x.swap(3), 5);
        due(16, "SWAP", x.count(10), 3);
        due(17, "cap", x.cap(99), 10);
        due(17, "cap", x.cap(0), 99);
        for (int c : new int[] {-1, 100, Integer.MAX_VALUE, Integer.MIN_VALUE}) {
            due(17, "c", x.cap(c), -3);
        }
        due(17, "CAP", x.count(12), 0);
    }

    private static void tick() {
        GroupLimits x = Check.small();
        for (int n : new int[] {0, -1, 41, Integer.MAX_VALUE, Integer.MIN_VALUE}) {
            due(18, "n", x.tick(n), -3);
        }
        x.limit(1, 6, 3);
        x.work(0, 4);
        x.work(1, 30);
        x.work(2, 30);
        due(18, "tick", x.tick(1), 1);
        // The root parts 10 among 1 (weight 3) and 3 (weight 1): 7 and 2, then the one left goes to the heavier.
        due(18, "of the root", x.of(0, 15), 10);
        due(18, "of group 1", x.of(1, 15), 8);
        due(18, "of group 3", x.of(3, 15), 2);
        due(18, "of group 2", x.of(2, 15), 4);
        due(18, "DONE", x.proc(0, 8), 4);
        due(18, "DONE", x.proc(1, 8), 4);
        due(18, "TODO", x.proc(1, 7), 26);
        due(18, "40 at most", x.tick(40), 41);
        due(18, "all is done", x.proc(1, 8) * 100 + x.proc(2, 8), 3030);
        GroupLimits y = Check.small();
        y.limit(1, 2, 0);
        y.charge(0, 0, 12);
        due(18, "stall", y.proc(0, 4), 3);
        y.work(0, 5);
        y.work(2, 25);
        y.tick(1);
        due(18, "who is stalled doesn't ask", y.proc(0, 8), 0);
        due(18, "others do", y.proc(2, 8), 10);
        due(18, "a stall is one less", y.proc(0, 4), 2);
        y.tick(2);
        due(18, "the stall is over", y.proc(0, 4), 0);
        due(18, "not yet", y.proc(0, 8), 0);
        y.tick(1);
        due(18, "now it is", y.proc(0, 8), 5);
        due(18, "WORK of who is stalled isn't counted", y.stalls(1, 2), 0);
        due(18, "WORK", y.stalls(3, 2), 2);
    }

    private static void tickQuota() {
        GroupLimits x = Check.small();
        x.limit(1, 7, 6);
        x.work(0, 20);
        x.work(2, 3);
        x.tick(1);
        due(18, "QUOTA", x.of(1, 15), 6);
        due(18, "the other", x.of(3, 15), 3);
        x.tick(4);
        due(18, "no more in this period", x.proc(0, 8), 6);
        x.tick(1);
        due(18, "the next", x.proc(0, 8), 12);
        x.limit(1, 7, 4);
        x.tick(4);
        due(18, "QUOTA below what it got", x.proc(0, 8), 12);
        x.limit(1, 7, 98);
        x.tick(1);
        due(18, "the rest", x.proc(0, 8), 20);
        due(18, "in that period", x.of(1, 15), 8);
        x.cap(99);
        x.work(0, 999);
        x.limit(1, 7, 99);
        x.tick(2);
        due(18, "a QUOTA of 99 is none", x.of(1, 15), 8 + 2 * 99);
        GroupLimits y = Check.small();
        y.limit(0, 7, 0);
        y.work(0, 5);
        y.tick(9);
        due(18, "QUOTA of the root", y.proc(0, 8), 0);
        y.limit(0, 7, 99);
        y.limit(2, 6, 9);
        y.cap(1);
        y.work(1, 2);
        y.tick(1);
        due(18, "one goes to the heaviest", y.proc(1, 8), 1);
        y.limit(2, 6, 1);
        y.tick(1);
        due(18, "of like ones to the first, children first", y.proc(1, 8), 2);
    }

    /** Twelve groups, each below the last. */
    private static void deepest() {
        GroupLimits x = new GroupLimits();
        for (int g = 1; g < 12; g++) {
            x.group(g - 1);
        }
        x.process(11, 0);
        x.process(0, 0);
        x.charge(0, 0, 10);
        due(7, "TOTAL of all", x.of(0, 12), 10);
        x.swap(9);
        due(13, "take", x.take(0, 2), 2);
        due(13, "OUT of all", x.of(0, 14), 2);
        x.limit(0, 5, 2);
        due(24, "SWAPMAX of the root", x.spare(11, 11, 0, 0), 0);
        x.limit(0, 3, 20);
        due(38, "MAX of the root", x.room(11), 12);
        x.charge(1, 1, 8);
        due(7, "MAX of the root", x.charge(0, 1, 5), 1);
        due(7, "its MAX event", x.events(0, 2), 1);
        due(7, "of the other", x.proc(1, 3), 7);
        x.limit(0, 2, 10);
        due(7, "HIGH of the root", x.charge(0, 0, 1), 0);
        due(7, "its HIGH event", x.events(0, 1), 1);
        due(28, "common", x.common(11, 0), 0);
        x.limit(0, 4, 1);
        due(37, "the whole root", x.dying(0), 3);
        x.limit(0, 8, 2);
        due(5, "PIDS of the root", x.process(11, 0), -4);
        x.limit(1, 8, 1);
        due(11, "PIDS of the second", x.move(1, 11), -4);
        x.limit(1, 8, 2);
        x.limit(1, 3, 11);
        x.limit(0, 2, 999);
        x.charge(1, 0, 2);
        due(11, "MAX of the second", x.move(1, 11), 0);
        due(11, "its MAX event", x.events(1, 2), 1);
        due(11, "TOTAL", x.of(1, 12), 11);
        x.work(0, 3);
        x.tick(1);
        due(18, "the root got", x.of(0, 15), 3);
        due(18, "the lowest got", x.of(11, 15), 3);
    }

    private static void trigger() {
        GroupLimits x = Check.small();
        for (int g : WRONG) {
            due(19, "trigger of none", x.trigger(g, 0, 0), -2);
        }
        int[][] wrong = {{0, 1}, {41, 1}, {-1, -1}, {5, 0}, {5, 6}, {5, -1}, {Integer.MAX_VALUE, 1}, {40, 41}};
        for (int[] wn : wrong) {
            due(19, "w, n", x.trigger(1, wn[0], wn[1]), -3);
        }
        due(19, "trigger", x.trigger(1, 3, 2), 0);
        due(19, "trigger", x.trigger(1, 40, 40), 1);
        due(19, "trigger", x.trigger(3, 1, 1), 2);
        due(19, "trigger", x.trigger(0, 2, 1), 3);
        due(19, "a fifth", x.trigger(1, 1, 1), -4);
        due(19, "a fifth of wrong numbers", x.trigger(1, 1, 2), -3);
        x.limit(1, 2, 0);
        x.charge(0, 0, 12);
        x.tick(1);
        due(19, "one of two", x.fired(0, 0), 0);
        due(19, "of the root", x.fired(3, 0), 1);
        x.tick(1);
        due(19, "two of three", x.fired(0, 0), 1);
        x.tick(3);
        due(19, "once as long as it is so", x.fired(0, 0), 1);
        due(19, "once as long as it is so", x.fired(3, 0), 1);
        x.charge(0, 0, 1);
        x.tick(4);
        due(19, "again", x.fired(0, 0), 2);
        due(19, "not in 40", x.fired(1, 0), 0);
        due(19, "of another group", x.fired(2, 0), 0);
        due(20, "forget", x.forget(), 4);
        due(20, "none", x.count(5), 0);
        due(20, "none", x.fired(0, 0), -2);
        due(20, "forget", x.forget(), 0);
        due(20, "it can be undone", x.undo(2), 8);
        due(20, "they are back", x.fired(0, 0), 2);
        GroupLimits y = Check.small();
        y.limit(1, 2, 0);
        y.charge(0, 0, 80);
        y.tick(2);
        y.trigger(1, 3, 2);
        y.trigger(1, 40, 20);
        y.tick(1);
        due(19, "it was so ahead of it", y.fired(0, 0), 0);
        y.tick(17);
        due(19, "20 of 40", y.fired(1, 0), 1);
    }
}
