/** Promises 49 to 52: back. */
public final class BackTest {
    private BackTest() {
    }

    private static void due(int promise, String call, int got, int want) {
        Check.due(promise, call, got, want);
    }

    public static void main(String[] args) {
        undo();
        undoEachCall();
        undoRemove();
        undoWrapsAround();
        refusedIsNothing();
        image();
        count();
        Check.end("back");
    }

    /** One of the calls that can be undone, by its number. */
    private static int callOne(GroupLimits x, int i) {
        switch (i) {
            case 0:
                return x.group(2);
            case 1:
                return x.remove(x.group(3));
            case 2:
                return x.limit(1, 3, 10);
            case 3:
                return x.process(3, 4);
            case 4:
                return x.fork(1);
            case 5:
                return x.charge(0, 0, 30);
            case 6:
                return x.uncharge(1, 0, 2);
            case 7:
                return x.use(2, 3);
            case 8:
                return x.work(1, 5);
            case 9:
                return x.move(1, 3);
            case 10:
                return x.kill(0);
            case 11:
                return x.take(0, 20);
            case 12:
                return x.drain(0);
            case 13:
                return x.batch(7);
            case 14:
                return x.swap(77);
            case 15:
                return x.cap(1);
            case 16:
                return x.tick(7);
            case 17:
                return x.trigger(0, 7, 7);
            default:
                return x.forget();
        }
    }

    private static void undo() {
        GroupLimits x = new GroupLimits();
        due(49, "nothing can be", x.undo(1), -3);
        for (int g = 1; g < 12; g++) {
            x.group(0);
        }
        due(52, "10 at most", x.count(6), 10);
        for (int n : new int[] {0, -1, 11, Integer.MAX_VALUE, Integer.MIN_VALUE}) {
            due(49, "n", x.undo(n), -3);
        }
        due(49, "undo", x.undo(3), 7);
        due(49, "the latest first", x.count(0), 511);
        due(49, "more than can be", x.undo(8), -3);
        due(49, "undo", x.undo(7), 0);
        due(49, "the eldest is forgotten", x.count(0), 3);
        due(49, "nothing can be", x.undo(1), -3);
        due(2, "group", x.group(0), 2);
        due(49, "undo", x.undo(1), 0);
        due(49, "as it was", x.count(0), 3);
    }

    private static void undoEachCall() {
        for (int i = 0; i < 19; i++) {
            GroupLimits x = Check.busy();
            long before = Check.seen(x);
            int told = callOne(x, i);
            due(49, "call " + i + " isn't refused", told < 0 ? told : 0, 0);
            if (i != 12) {
                due(49, "call " + i + " does something", Check.seen(x) != before || i == 1 ? 1 : 0, 1);
            }
            due(49, "undo of call " + i, x.undo(i == 1 ? 2 : 1), i == 1 ? 8 : 9);
            due(49, "all is as it was behind call " + i, Check.seen(x) == before ? 1 : 0, 1);
            due(49, "the call tells the same again", callOne(x, i), told);
        }
    }

    private static void undoRemove() {
        GroupLimits x = Check.busy();
        x.group(1);
        x.trigger(4, 2, 2);
        x.trigger(1, 3, 3);
        x.limit(4, 6, 5);
        long before = Check.seen(x);
        due(3, "remove", x.remove(4), 1);
        due(49, "undo", x.undo(1), 9);
        due(49, "as it was", Check.seen(x) == before ? 1 : 0, 1);
        due(49, "the trigger's group", x.fired(1, 1), 4);
        due(49, "the other's", x.fired(2, 1), 1);
        x.forget();
        x.trigger(0, 1, 1);
        x.trigger(0, 1, 1);
        x.trigger(0, 1, 1);
        x.undo(4);
        due(49, "as it was", Check.seen(x) == before ? 1 : 0, 1);
        x.limit(1, 5, 0);
        x.limit(1, 2, 0);
        x.charge(0, 0, 12);
        int[] fired = {x.fired(0, 0), x.fired(2, 0)};
        x.tick(3);
        due(49, "its window and n are back", x.fired(2, 0) - fired[1], 1);
        due(49, "its window and n are back", x.fired(0, 0) - fired[0], 1);
    }

    private static void undoWrapsAround() {
        GroupLimits x = Check.busy();
        long[] states = new long[60];
        int at = 0;
        for (int i = 0; i < 50; i++) {
            states[at] = Check.seen(x);
            int told = callOne(x, new int[] {8, 16, 5, 13, 11, 14, 3, 10}[i % 8]);
            at += told >= 0 ? 1 : 0;
            if (i % 7 == 6) {
                int n = i % 3 + 1;
                due(49, "how many still can be", x.undo(n), x.count(6));
                at -= n;
                due(49, "as it was", Check.seen(x) == states[at] ? 1 : 0, 1);
            }
        }
        for (int can = x.count(6); can > 0; can--) {
            due(49, "undo", x.undo(1), can - 1);
            at--;
            due(49, "as it was", Check.seen(x) == states[at] ? 1 : 0, 1);
        }
    }

    private static void refusedIsNothing() {
        GroupLimits x = Check.busy();
        x.limit(3, 8, 1);
        x.undo(1);
        int can = x.count(6);
        long before = Check.seen(x);
        int[] told = {x.group(9), x.remove(0), x.limit(1, 2, 1000), x.process(3, 11), x.fork(7), x.charge(0, 2, 1),
            x.uncharge(0, 0, 99), x.use(0, 99), x.work(0, 0), x.move(0, 1), x.kill(9), x.take(0, 0), x.drain(7), x.batch(0),
            x.swap(2), x.cap(100), x.tick(0), x.trigger(0, 1, 2), x.undo(11), x.image(2), x.restore(1)};
        int[] codes = {-2, -5, -3, -3, -2, -3, -4, -3, -3, -5, -2, -3, -2, -3, -4, -3, -3, -3, -3, -2, -6};
        for (int i = 0; i < told.length; i++) {
            due(49, "refused " + i, told[i], codes[i]);
        }
        due(49, "nothing to undo", x.count(6), can);
        due(49, "nothing changed", Check.seen(x) == before ? 1 : 0, 1);
    }

    private static void image() {
        GroupLimits x = Check.busy();
        due(51, "none was made", x.restore(0), -6);
        long first = Check.seen(x);
        int can = x.count(6);
        due(50, "image", x.image(0), 0);
        due(50, "it changes nothing", Check.seen(x) == first ? 1 : 0, 1);
        due(50, "nor what can be undone", x.count(6), can);
        due(51, "the other wasn't made", x.restore(1), -6);
        for (int i = 0; i < 12; i++) {
            callOne(x, i);
        }
        long second = Check.seen(x);
        due(50, "image", x.image(1), 0);
        due(51, "restore", x.restore(0), 0);
        due(51, "as it was", Check.seen(x) == first ? 1 : 0, 1);
        due(51, "nothing can be undone behind", x.count(6), 0);
        due(51, "nothing can be undone behind", x.undo(1), -3);
        x.tick(4);
        due(49, "what came behind can", x.undo(1), 0);
        due(51, "as it was", Check.seen(x) == first ? 1 : 0, 1);
        due(51, "restore", x.restore(1), 0);
        due(51, "as it was", Check.seen(x) == second ? 1 : 0, 1);
        x.tick(1);
        due(51, "it can be again", x.restore(1), 0);
        due(51, "as it was", Check.seen(x) == second ? 1 : 0, 1);
        due(50, "an image made anew", x.image(0), 0);
        x.tick(1);
        x.restore(0);
        due(51, "is the newer one", Check.seen(x) == second ? 1 : 0, 1);
        for (int i : new int[] {-1, 2, Integer.MAX_VALUE, Integer.MIN_VALUE}) {
            due(50, "none such", x.image(i), -2);
            due(51, "none such", x.restore(i), -2);
        }
        GroupLimits y = new GroupLimits();
        y.group(0);
        y.image(0);
        y.undo(1);
        due(51, "images stay by undo", y.restore(0), 0);
        due(51, "as it was", y.count(0), 3);
    }

    private static void count() {
        GroupLimits x = new GroupLimits();
        x.group(0);
        x.group(0);
        x.process(1, 0);
        x.process(2, 0);
        x.charge(0, 0, 9);
        x.charge(1, 1, 2);
        x.swap(50);
        x.limit(2, 0, 4);
        x.take(1, 3);
        x.charge(0, 1, 1);
        x.trigger(1, 1, 1);
        x.trigger(1, 1, 1);
        x.tick(6);
        x.cap(8);
        x.batch(5);
        x.remove(x.group(0));
        int[] is = {7, 3, 6, 14, 5, 2, 10, 6, 3, 5, 50, 3, 8};
        for (int what = 0; what < is.length; what++) {
            due(52, "count " + what, x.count(what), is[what]);
        }
        for (int what : new int[] {-1, 13, Integer.MAX_VALUE, Integer.MIN_VALUE}) {
            due(52, "others", x.count(what), -1);
        }
    }
}
