import java.util.ArrayList;
import java.util.List;
import java.util.Map;
import java.util.TreeMap;

/**
 * The document once more, as plainly as it can be said and without a thought to speed: every sum is made anew, nothing
 * is kept that could be counted. AgainstModelTest holds GroupLimits against it.
 */
final class PlainModel {
    /** In what a group was stalled in a tick, and the ticks before: never changed, so copies may share it. */
    static final class Log {
        final boolean[] is;
        final Log before;

        Log(boolean[] is, Log before) {
            this.is = is;
            this.before = before;
        }

        static int stalledIn(Log log, int kind, int w) {
            int n = 0;
            Log at = log;
            for (int i = 0; i < w && at != null; i++) {
                n += at.is[kind] ? 1 : 0;
                at = at.before;
            }
            return n;
        }
    }

    static final class Group {
        int id;
        int parent;
        int[] lim = {0, 0, 999, 999, 0, 999, 1, 99, 16};
        int stock;
        int[] events = new int[4];
        Log log;
        int[][] avg = new int[3][3];
        TreeMap<Integer, Integer> gotIn = new TreeMap<>();

        Group copy() {
            Group c = new Group();
            c.id = id;
            c.parent = parent;
            c.lim = lim.clone();
            c.stock = stock;
            c.events = events.clone();
            c.log = log;
            for (int k = 0; k < 3; k++) {
                c.avg[k] = avg[k].clone();
            }
            c.gotIn = new TreeMap<>(gotIn);
            return c;
        }
    }

    static final class Proc {
        int id;
        int group;
        int adj;
        int[] pages = new int[2];
        int swapped;
        int stall;
        int todo;
        int done;

        Proc copy() {
            Proc c = new Proc();
            c.id = id;
            c.group = group;
            c.adj = adj;
            c.pages = pages.clone();
            c.swapped = swapped;
            c.stall = stall;
            c.todo = todo;
            c.done = done;
            return c;
        }

        int bad() {
            return pages[0] + pages[1] + swapped + 10 * adj;
        }
    }

    /** The call is refused with a code. */
    static final class Refused extends RuntimeException {
        private static final long serialVersionUID = 1L;
        final int code;

        Refused(int code) {
            super(null, null, false, false);
            this.code = code;
        }
    }

    static final class State {
        TreeMap<Integer, Group> groups = new TreeMap<>();
        TreeMap<Integer, Proc> procs = new TreeMap<>();
        /** group, w, n, how often. */
        List<int[]> triggers = new ArrayList<>();
        int batch = 4;
        int swap = 0;
        int cap = 10;
        int ticks = 0;

        State copy() {
            State c = new State();
            for (Group g : groups.values()) {
                c.groups.put(g.id, g.copy());
            }
            for (Proc p : procs.values()) {
                c.procs.put(p.id, p.copy());
            }
            for (int[] t : triggers) {
                c.triggers.add(t.clone());
            }
            c.batch = batch;
            c.swap = swap;
            c.cap = cap;
            c.ticks = ticks;
            return c;
        }

        List<Integer> children(int g) {
            List<Integer> list = new ArrayList<>();
            for (Group c : groups.values()) {
                if (c.parent == g) {
                    list.add(c.id);
                }
            }
            return list;
        }

        List<Integer> path(int g) {
            List<Integer> list = new ArrayList<>();
            for (int at = g; at != -1; at = groups.get(at).parent) {
                list.add(at);
            }
            return list;
        }

        boolean isBelow(int g, int r) {
            return g != -1 && (g == r || isBelow(groups.get(g).parent, r));
        }

        List<Group> below(int r) {
            List<Group> list = new ArrayList<>();
            for (Group g : groups.values()) {
                if (isBelow(g.id, r)) {
                    list.add(g);
                }
            }
            return list;
        }

        List<Proc> procsBelow(int r) {
            List<Proc> list = new ArrayList<>();
            for (Proc p : procs.values()) {
                if (isBelow(p.group, r)) {
                    list.add(p);
                }
            }
            return list;
        }

        List<Proc> procsIn(int g) {
            List<Proc> list = new ArrayList<>();
            for (Proc p : procs.values()) {
                if (p.group == g) {
                    list.add(p);
                }
            }
            return list;
        }

        int inGroup(int g, int kind) {
            int n = 0;
            for (Proc p : procs.values()) {
                n += p.group == g ? p.pages[kind] : 0;
            }
            return n;
        }

        int own(int g) {
            return inGroup(g, 0) + inGroup(g, 1);
        }

        int total(int r) {
            int n = 0;
            for (Group g : groups.values()) {
                n += isBelow(g.id, r) ? g.stock : 0;
            }
            for (Proc p : procs.values()) {
                n += isBelow(p.group, r) ? p.pages[0] + p.pages[1] : 0;
            }
            return n;
        }

        int out(int r) {
            int n = 0;
            for (Proc p : procs.values()) {
                n += isBelow(p.group, r) ? p.swapped : 0;
            }
            return n;
        }

        int lim(int g, int what) {
            return groups.get(g).lim[what];
        }

        int claim(int g, int level) {
            return Math.min(lim(g, level == 0 ? 1 : 0), total(g));
        }

        int shareOf(int g, int r, int level) {
            int up = groups.get(g).parent;
            int claim = claim(g, level);
            if (up == r) {
                return claim;
            }
            int all = 0;
            for (int c : children(up)) {
                all += claim(c, level);
            }
            int whole = shareOf(up, r, level);
            return all <= whole ? claim : claim * whole / all;
        }

        int spareOf(int g, int r, int level, int kind) {
            int least = inGroup(g, kind);
            if (least == 0) {
                return 0;
            }
            for (int at : path(g)) {
                if (at == r) {
                    break;
                }
                least = Math.min(least, total(at) - shareOf(at, r, level));
            }
            if (kind == 0) {
                least = Math.min(least, swap - out(0));
                for (int at : path(g)) {
                    least = Math.min(least, Math.max(0, lim(at, 5) - out(at)));
                }
            }
            return least;
        }

        int nextOf(int r, int level, int kind) {
            int best = -1;
            int most = 0;
            for (Group g : below(r)) {
                int spare = spareOf(g.id, r, level, kind);
                if (spare > most) {
                    most = spare;
                    best = g.id;
                }
            }
            return best;
        }

        int drainBelow(int r) {
            int n = 0;
            for (Group g : below(r)) {
                n += g.stock;
                g.stock = 0;
            }
            return n;
        }

        int takeFrom(int r, int n) {
            int taken = drainBelow(r);
            for (int level = 0; level <= 1; level++) {
                for (int kind = 1; kind >= 0; kind--) {
                    while (taken < n) {
                        int g = nextOf(r, level, kind);
                        if (g == -1) {
                            break;
                        }
                        int spare = spareOf(g, r, level, kind);
                        Proc most = null;
                        for (Proc p : procsIn(g)) {
                            if (most == null || p.pages[kind] > most.pages[kind]) {
                                most = p;
                            }
                        }
                        int k = Math.min(Math.min(4, n - taken), Math.min(spare, most.pages[kind]));
                        most.pages[kind] -= k;
                        if (kind == 0) {
                            most.swapped += k;
                        }
                        taken += k;
                    }
                }
                if (level == 0 && taken < n) {
                    groups.get(r).events[0]++;
                }
            }
            return taken;
        }

        Proc victimOf(int r) {
            Proc worst = null;
            for (Proc p : procsBelow(r)) {
                if (p.adj != -10 && (worst == null || p.bad() > worst.bad())) {
                    worst = p;
                }
            }
            return worst;
        }

        List<Integer> dyingOf(int r) {
            List<Integer> list = new ArrayList<>();
            Proc v = victimOf(r);
            if (v == null) {
                return list;
            }
            int whole = -1;
            for (int at : path(v.group)) {
                if (isBelow(at, r) && lim(at, 4) == 1) {
                    whole = at;
                }
            }
            if (whole == -1) {
                list.add(v.id);
                return list;
            }
            for (Proc p : procsBelow(whole)) {
                if (p.adj != -10) {
                    list.add(p.id);
                }
            }
            return list;
        }

        List<Integer> death(int r) {
            List<Integer> list = dyingOf(r);
            for (int p : list) {
                procs.remove(p);
            }
            groups.get(r).events[3] += list.size();
            return list;
        }

        int firstAbove(int g, int n) {
            for (int at : path(g)) {
                if (total(at) + n > lim(at, 3)) {
                    return at;
                }
            }
            return -1;
        }

        void stallMore(Proc p, int pages) {
            int by = pages / 4 + (pages % 4 > 0 ? 1 : 0);
            p.stall = Math.min(20, p.stall + by);
        }

        int doCharge(int id, int kind, int n) {
            Proc p = procs.get(id);
            Group g = groups.get(p.group);
            int told = 0;
            if (g.stock >= n) {
                g.stock -= n;
                p.pages[kind] += n;
            } else if (firstAbove(g.id, Math.max(n, batch)) == -1) {
                p.pages[kind] += n;
                g.stock += Math.max(n, batch) - n;
            } else {
                while (firstAbove(g.id, n) != -1) {
                    int at = firstAbove(g.id, n);
                    groups.get(at).events[2]++;
                    takeFrom(at, total(at) + n - lim(at, 3));
                    told = Math.max(told, 1);
                    if (total(at) + n > lim(at, 3)) {
                        List<Integer> dead = death(at);
                        if (dead.isEmpty()) {
                            throw new Refused(-4);
                        }
                        if (dead.contains(id)) {
                            return 3;
                        }
                        told = 2;
                    }
                }
                p.pages[kind] += n;
            }
            for (int at : path(g.id)) {
                if (total(at) > lim(at, 2)) {
                    groups.get(at).events[1]++;
                    takeFrom(at, total(at) - lim(at, 2));
                    if (total(at) > lim(at, 2)) {
                        stallMore(p, total(at) - lim(at, 2));
                    }
                }
            }
            return told;
        }

        int setLimit(int g, int what, int v) {
            groups.get(g).lim[what] = v;
            if ((what == 2 || what == 3) && total(g) > v) {
                takeFrom(g, total(g) - v);
            }
            while (what == 3 && total(g) > v) {
                if (death(g).isEmpty()) {
                    throw new Refused(-4);
                }
            }
            return total(g);
        }

        boolean full(int g) {
            return procsBelow(g).size() >= lim(g, 8);
        }

        /** Groups of the new path that aren't of the old one. */
        List<Integer> fresh(Proc p, int g) {
            List<Integer> list = path(g);
            list.removeAll(path(p.group));
            return list;
        }

        boolean keptOut(Proc p, int g) {
            for (int at : fresh(p, g)) {
                if (full(at) || p.swapped > 0 && out(at) + p.swapped > lim(at, 5)) {
                    return true;
                }
            }
            return false;
        }

        int got(int g, int period) {
            return groups.get(g).gotIn.getOrDefault(period, 0);
        }

        int asks(int g) {
            int n = 0;
            for (Proc p : procsIn(g)) {
                n += p.stall == 0 ? p.todo : 0;
            }
            for (int c : children(g)) {
                n += asks(c);
            }
            if (lim(g, 7) < 99) {
                n = Math.min(n, Math.max(0, lim(g, 7) - got(g, ticks / 5)));
            }
            return n;
        }

        /** What everyone gets: groups by their number, processes by 100 and theirs. */
        Map<Integer, Integer> plan() {
            Map<Integer, Integer> gets = new TreeMap<>();
            gets.put(0, Math.min(cap, asks(0)));
            part(0, gets);
            return gets;
        }

        void part(int g, Map<Integer, Integer> gets) {
            List<int[]> list = new ArrayList<>();
            for (int c : children(g)) {
                list.add(new int[] {c, lim(c, 6), asks(c), 0});
            }
            for (Proc p : procsIn(g)) {
                list.add(new int[] {100 + p.id, 1, p.stall == 0 ? p.todo : 0, 0});
            }
            int left = gets.get(g);
            while (left > 0) {
                List<int[]> asking = new ArrayList<>();
                int weights = 0;
                for (int[] m : list) {
                    if (m[3] < m[2]) {
                        asking.add(m);
                        weights += m[1];
                    }
                }
                if (asking.isEmpty()) {
                    break;
                }
                int u = left;
                int[] heaviest = asking.get(0);
                for (int[] m : asking) {
                    int k = Math.min(u * m[1] / weights, m[2] - m[3]);
                    m[3] += k;
                    left -= k;
                    if (m[1] > heaviest[1]) {
                        heaviest = m;
                    }
                }
                if (left == u) {
                    heaviest[3]++;
                    left--;
                }
            }
            for (int[] m : list) {
                gets.put(m[0], m[3]);
            }
            for (int c : children(g)) {
                part(c, gets);
            }
        }

        void oneTick() {
            Map<Integer, Integer> gets = plan();
            for (Group g : groups.values()) {
                g.gotIn.merge(ticks / 5, gets.get(g.id), Integer::sum);
            }
            for (Proc p : procs.values()) {
                p.todo -= gets.get(100 + p.id);
                p.done += gets.get(100 + p.id);
            }
            for (Group g : groups.values()) {
                List<Proc> list = procsBelow(g.id);
                boolean[] is = {false, !list.isEmpty(), false};
                for (Proc p : list) {
                    is[0] |= p.stall > 0;
                    is[1] &= p.stall > 0;
                    is[2] |= p.stall == 0 && p.todo > 0;
                }
                g.log = new Log(is, g.log);
                int[] over = {5, 10, 30};
                for (int k = 0; k < 3; k++) {
                    for (int i = 0; i < 3; i++) {
                        g.avg[k][i] = ((over[i] - 1) * g.avg[k][i] + (is[k] ? 1000 : 0)) / over[i];
                    }
                }
            }
            for (Proc p : procs.values()) {
                p.stall = Math.max(0, p.stall - 1);
            }
            for (int[] t : triggers) {
                Group g = groups.get(t[0]);
                if (Log.stalledIn(g.log, 0, t[1]) >= t[2] && Log.stalledIn(g.log.before, 0, t[1]) < t[2]) {
                    t[3]++;
                }
            }
            ticks++;
        }

        boolean anyTodo() {
            for (Proc p : procs.values()) {
                if (p.todo > 0) {
                    return true;
                }
            }
            return false;
        }
    }

    private State s = new State();
    private final List<State> undo = new ArrayList<>();
    private final State[] images = new State[2];

    PlainModel() {
        Group root = new Group();
        root.parent = -1;
        s.groups.put(0, root);
    }

    /** What a call does to a state; throws Refused. */
    interface Change {
        int on(State t);
    }

    private int change(Change c) {
        State t = s.copy();
        int told;
        try {
            told = c.on(t);
        } catch (Refused r) {
            return r.code;
        }
        undo.add(s);
        if (undo.size() > 10) {
            undo.remove(0);
        }
        s = t;
        return told;
    }

    private int look(Change c) {
        try {
            return c.on(s.copy());
        } catch (Refused r) {
            return r.code;
        }
    }

    private static void refuseIf(boolean wrong, int code) {
        if (wrong) {
            throw new Refused(code);
        }
    }

    private static boolean in(int v, int a, int b) {
        return a <= v && v <= b;
    }

    private static Group grp(State t, int g) {
        refuseIf(!t.groups.containsKey(g), -2);
        return t.groups.get(g);
    }

    private static Proc prc(State t, int p) {
        refuseIf(!t.procs.containsKey(p), -2);
        return t.procs.get(p);
    }

    private static int bits(Iterable<Integer> list) {
        int b = 0;
        for (int i : list) {
            b |= 1 << i;
        }
        return b;
    }

    private static int make(State t, int g, int adj) {
        refuseIf(t.procs.size() == 16, -4);
        for (int at : t.path(g)) {
            refuseIf(t.full(at), -4);
        }
        Proc p = new Proc();
        while (t.procs.containsKey(p.id)) {
            p.id++;
        }
        p.group = g;
        p.adj = adj;
        t.procs.put(p.id, p);
        return p.id;
    }

    int group(int parent) {
        return change(t -> {
            grp(t, parent);
            refuseIf(t.groups.size() == 12, -4);
            Group g = new Group();
            while (t.groups.containsKey(g.id)) {
                g.id++;
            }
            g.parent = parent;
            t.groups.put(g.id, g);
            return g.id;
        });
    }

    int remove(int g) {
        return change(t -> {
            grp(t, g);
            refuseIf(g == 0 || !t.children(g).isEmpty() || !t.procsIn(g).isEmpty(), -5);
            t.triggers.removeIf(x -> x[0] == g);
            return t.groups.remove(g).parent;
        });
    }

    int limit(int g, int what, int v) {
        return change(t -> {
            grp(t, g);
            refuseIf(!in(what, 0, 8), -2);
            int[] most = {999, 999, 999, 999, 1, 999, 9, 99, 16};
            refuseIf(!in(v, what == 6 ? 1 : 0, most[what]), -3);
            return t.setLimit(g, what, v);
        });
    }

    int process(int g, int adj) {
        return change(t -> {
            grp(t, g);
            refuseIf(!in(adj, -10, 10), -3);
            return make(t, g, adj);
        });
    }

    int fork(int p) {
        return change(t -> make(t, prc(t, p).group, prc(t, p).adj));
    }

    private static void checkCharge(State t, int p, int kind, int n) {
        prc(t, p);
        refuseIf(!in(kind, 0, 1) || !in(n, 1, 99), -3);
    }

    int charge(int p, int kind, int n) {
        return change(t -> {
            checkCharge(t, p, kind, n);
            return t.doCharge(p, kind, n);
        });
    }

    int uncharge(int p, int kind, int n) {
        return change(t -> {
            checkCharge(t, p, kind, n);
            Proc x = prc(t, p);
            refuseIf(x.pages[kind] < n, -4);
            x.pages[kind] -= n;
            Group g = grp(t, x.group);
            g.stock += n;
            if (g.stock > t.batch) {
                g.stock = 0;
            }
            return x.pages[kind];
        });
    }

    int use(int p, int n) {
        return change(t -> {
            Proc x = prc(t, p);
            refuseIf(!in(n, 1, 99) || n > x.swapped, -3);
            int told = t.doCharge(p, 0, n);
            if (t.procs.containsKey(p)) {
                x.swapped -= n;
                t.stallMore(x, n);
            }
            return told;
        });
    }

    int work(int p, int n) {
        return change(t -> {
            Proc x = prc(t, p);
            refuseIf(!in(n, 1, 999), -3);
            x.todo = Math.min(999, x.todo + n);
            return x.todo;
        });
    }

    int move(int p, int g) {
        return change(t -> {
            Proc x = prc(t, p);
            grp(t, g);
            refuseIf(x.group == g, -5);
            refuseIf(t.keptOut(x, g), -4);
            int pages = x.pages[0] + x.pages[1];
            for (int at : t.fresh(x, g)) {
                if (t.total(at) + pages > t.lim(at, 3)) {
                    grp(t, at).events[2]++;
                    t.takeFrom(at, t.total(at) + pages - t.lim(at, 3));
                    refuseIf(t.total(at) + pages > t.lim(at, 3), -4);
                }
            }
            int was = x.group;
            x.group = g;
            return was;
        });
    }

    int kill(int p) {
        return change(t -> {
            Proc x = prc(t, p);
            t.procs.remove(p);
            return x.pages[0] + x.pages[1];
        });
    }

    int take(int g, int n) {
        return change(t -> {
            grp(t, g);
            refuseIf(!in(n, 1, 999), -3);
            return t.takeFrom(g, n);
        });
    }

    int drain(int g) {
        return change(t -> {
            grp(t, g);
            return t.drainBelow(g);
        });
    }

    int batch(int b) {
        return change(t -> {
            refuseIf(!in(b, 1, 8), -3);
            int was = t.batch;
            t.batch = b;
            return was;
        });
    }

    int swap(int v) {
        return change(t -> {
            refuseIf(!in(v, 0, 999), -3);
            refuseIf(t.out(0) > v, -4);
            int was = t.swap;
            t.swap = v;
            return was;
        });
    }

    int cap(int c) {
        return change(t -> {
            refuseIf(!in(c, 0, 99), -3);
            int was = t.cap;
            t.cap = c;
            return was;
        });
    }

    int tick(int n) {
        return change(t -> {
            refuseIf(!in(n, 1, 40), -3);
            for (int i = 0; i < n; i++) {
                t.oneTick();
            }
            return t.ticks;
        });
    }

    int trigger(int g, int w, int n) {
        return change(t -> {
            grp(t, g);
            refuseIf(!in(w, 1, 40) || !in(n, 1, w), -3);
            refuseIf(t.triggers.size() == 4, -4);
            t.triggers.add(new int[] {g, w, n, 0});
            return t.triggers.size() - 1;
        });
    }

    int forget() {
        return change(t -> {
            int n = t.triggers.size();
            t.triggers.clear();
            return n;
        });
    }

    int of(int g, int what) {
        return look(t -> {
            Group x = grp(t, g);
            refuseIf(!in(what, 0, 15), -2);
            if (what <= 8) {
                return x.lim[what];
            }
            int latest = t.ticks == 0 ? 0 : t.got(g, (t.ticks - 1) / 5);
            return new int[] {x.parent, t.own(g), x.stock, t.total(g), t.inGroup(g, 1), t.out(g), latest}[what - 9];
        });
    }

    int proc(int p, int what) {
        if (!s.procs.containsKey(p) || !in(what, 0, 8)) {
            return -99;
        }
        Proc x = s.procs.get(p);
        return new int[] {x.group, x.adj, x.pages[0], x.pages[1], x.stall, x.bad(), x.swapped, x.todo, x.done}[what];
    }

    int share(int g, int r, int level) {
        return look(t -> {
            grp(t, g);
            grp(t, r);
            refuseIf(!t.isBelow(g, r) || g == r, -2);
            refuseIf(!in(level, 0, 1), -3);
            return t.shareOf(g, r, level);
        });
    }

    int spare(int g, int r, int level, int kind) {
        return look(t -> {
            grp(t, g);
            grp(t, r);
            refuseIf(!t.isBelow(g, r), -2);
            refuseIf(!in(level, 0, 1) || !in(kind, 0, 1), -3);
            return t.spareOf(g, r, level, kind);
        });
    }

    int next(int r, int level, int kind) {
        return look(t -> {
            grp(t, r);
            refuseIf(!in(level, 0, 1) || !in(kind, 0, 1), -3);
            return t.nextOf(r, level, kind);
        });
    }

    int below(int g) {
        return look(t -> {
            grp(t, g);
            int b = 0;
            for (Group x : t.below(g)) {
                b |= 1 << x.id;
            }
            return b;
        });
    }

    private static int procBits(State t, int g) {
        int b = 0;
        for (Proc x : t.procsBelow(g)) {
            b |= 1 << x.id;
        }
        return b;
    }

    int procs(int g) {
        return look(t -> {
            grp(t, g);
            return procBits(t, g);
        });
    }

    int common(int g, int other) {
        return look(t -> {
            grp(t, g);
            grp(t, other);
            List<Integer> list = t.path(g);
            list.retainAll(t.path(other));
            return list.get(0);
        });
    }

    int pressure(int g, int kind, int w) {
        return look(t -> {
            grp(t, g);
            refuseIf(!in(kind, 0, 2) || !in(w, 1, 40), -3);
            return Log.stalledIn(grp(t, g).log, kind, w);
        });
    }

    int average(int g, int kind, int i) {
        return look(t -> {
            grp(t, g);
            refuseIf(!in(kind, 0, 2) || !in(i, 0, 2), -3);
            return grp(t, g).avg[kind][i];
        });
    }

    int stalls(int g, int kind) {
        return look(t -> {
            grp(t, g);
            refuseIf(!in(kind, 0, 2), -3);
            return Log.stalledIn(grp(t, g).log, kind, 1_000_000);
        });
    }

    int worst() {
        int best = -1;
        int most = 0;
        for (Group g : s.groups.values()) {
            if (g.id != 0 && Log.stalledIn(g.log, 0, 10) > most) {
                most = Log.stalledIn(g.log, 0, 10);
                best = g.id;
            }
        }
        return best;
    }

    int units(int k, int what) {
        return look(t -> {
            refuseIf(!in(what, 0, 1), -2);
            if (what == 0) {
                grp(t, k);
            } else {
                prc(t, k);
            }
            return t.plan().get(what == 0 ? k : 100 + k);
        });
    }

    int fired(int i, int what) {
        if (!in(i, 0, s.triggers.size() - 1) || !in(what, 0, 1)) {
            return -2;
        }
        return s.triggers.get(i)[what == 0 ? 3 : 0];
    }

    int events(int g, int what) {
        return look(t -> {
            grp(t, g);
            refuseIf(!in(what, 0, 3), -2);
            return grp(t, g).events[what];
        });
    }

    int victim(int r) {
        return look(t -> {
            grp(t, r);
            return t.victimOf(r) == null ? -1 : t.victimOf(r).id;
        });
    }

    int dying(int r) {
        return look(t -> {
            grp(t, r);
            return bits(t.dyingOf(r));
        });
    }

    private static int least(State t, int g) {
        int least = 9999;
        for (int at : t.path(g)) {
            least = Math.min(least, t.lim(at, 3) - t.total(at));
        }
        return least;
    }

    int room(int g) {
        return look(t -> {
            grp(t, g);
            return least(t, g) + grp(t, g).stock;
        });
    }

    int deaths(int g, int v) {
        return look(t -> {
            grp(t, g);
            refuseIf(!in(v, 0, 999), -3);
            int before = procBits(t, 0);
            try {
                t.setLimit(g, 3, v);
            } catch (Refused r) {
                return 0;
            }
            return before & ~procBits(t, 0);
        });
    }

    int taken(int g, int r, int n, int what) {
        return look(t -> {
            grp(t, g);
            grp(t, r);
            refuseIf(!t.isBelow(g, r) || !in(what, 0, 1), -2);
            refuseIf(!in(n, 1, 999), -3);
            int own = t.own(g);
            int stock = grp(t, g).stock;
            t.takeFrom(r, n);
            return own - t.own(g) + (what == 1 ? stock - grp(t, g).stock : 0);
        });
    }

    int place(int p) {
        return look(t -> {
            Proc x = prc(t, p);
            int best = -1;
            int most = -1;
            for (Group g : t.groups.values()) {
                if (g.id == x.group || t.keptOut(x, g.id)) {
                    continue;
                }
                boolean fits = true;
                for (int at : t.fresh(x, g.id)) {
                    fits &= t.total(at) + x.pages[0] + x.pages[1] <= t.lim(at, 3);
                }
                if (fits) {
                    int was = x.group;
                    x.group = g.id;
                    int room = least(t, g.id);
                    x.group = was;
                    if (room > most) {
                        most = room;
                        best = g.id;
                    }
                }
            }
            return best;
        });
    }

    int due(int g) {
        return look(t -> {
            grp(t, g);
            for (Proc p : t.procs.values()) {
                p.todo = 999;
                p.stall = 0;
            }
            for (Group x : t.groups.values()) {
                x.gotIn.clear();
            }
            return t.plan().get(g);
        });
    }

    int idle() {
        return look(t -> {
            for (int i = 0; i <= 100; i++) {
                if (!t.anyTodo()) {
                    return i;
                }
                t.oneTick();
            }
            return -1;
        });
    }

    int weigh(int g, int u) {
        return look(t -> {
            grp(t, g);
            refuseIf(g == 0, -2);
            refuseIf(!in(u, 1, 99), -3);
            for (int weight = 1; weight <= 9; weight++) {
                grp(t, g).lim[6] = weight;
                if (t.plan().get(g) >= u) {
                    return weight;
                }
            }
            return -1;
        });
    }

    int pressed(int g) {
        return look(t -> {
            grp(t, g);
            t.takeFrom(g, 999);
            return t.total(g);
        });
    }

    int would(int p, int kind, int n) {
        return look(t -> {
            checkCharge(t, p, kind, n);
            return t.doCharge(p, kind, n);
        });
    }

    int burst(int p, int kind) {
        int best = 0;
        for (int n = 1; n <= 99; n++) {
            int told = would(p, kind, n);
            if (told == -2 || told == -3) {
                return told;
            }
            if (told == 0 || told == 1) {
                best = n;
            }
        }
        return best;
    }

    int stalled(int p, int kind, int n) {
        return look(t -> {
            checkCharge(t, p, kind, n);
            try {
                return t.doCharge(p, kind, n) == 3 ? -1 : prc(t, p).stall;
            } catch (Refused r) {
                return -1;
            }
        });
    }

    int undo(int n) {
        if (!in(n, 1, 10) || n > undo.size()) {
            return -3;
        }
        for (int i = 0; i < n; i++) {
            s = undo.remove(undo.size() - 1);
        }
        return undo.size();
    }

    int image(int i) {
        if (!in(i, 0, 1)) {
            return -2;
        }
        images[i] = s.copy();
        return 0;
    }

    int restore(int i) {
        if (!in(i, 0, 1)) {
            return -2;
        }
        if (images[i] == null) {
            return -6;
        }
        s = images[i].copy();
        undo.clear();
        return 0;
    }

    int count(int what) {
        int anon = 0;
        int cache = 0;
        int stocks = 0;
        for (Group g : s.groups.values()) {
            anon += s.inGroup(g.id, 0);
            cache += s.inGroup(g.id, 1);
            stocks += g.stock;
        }
        int[] all = {bits(s.groups.keySet()), bits(s.procs.keySet()), s.ticks, s.total(0), s.batch, s.triggers.size(),
            undo.size(), anon, cache, stocks, s.swap, s.out(0), s.cap};
        return in(what, 0, 12) ? all[what] : -1;
    }
}
