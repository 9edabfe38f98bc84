import java.util.Arrays;

/** Groups of processes under limits. The document (../shared/DOC.md) says what each call does and answers. */
public final class GroupLimits {
    public static final int NONE = -1;

    private static final int NO_SUCH = -2;
    private static final int BAD_NUMBER = -3;
    private static final int NO_ROOM = -4;
    private static final int NOT_NOW = -5;
    private static final int NO_IMAGE = -6;
    private static final int NO_PROCESS = -99;

    private static final int GROUPS = 12;
    private static final int ROOT = 0;
    /** Stands as the parent of a number that no group has. */
    private static final int FREE = -2;
    private static final int PROCESSES = 16;
    private static final int TRIGGERS = 4;
    private static final int IMAGES = 2;
    private static final int UNDOS = 10;

    private static final int ANON = 0;
    private static final int CACHE = 1;
    private static final int KINDS = 2;

    private static final int MIN = 0;
    private static final int LOW = 1;
    private static final int HIGH = 2;
    private static final int MAX = 3;
    private static final int WHOLE = 4;
    private static final int SWAPMAX = 5;
    private static final int WEIGHT = 6;
    private static final int QUOTA = 7;
    private static final int PIDS = 8;
    private static final int LIMITS = 9;
    private static final int[] LIMIT_AT_FIRST = {0, 0, 999, 999, 0, 999, 1, 99, 16};
    private static final int[] LIMIT_LEAST = {0, 0, 0, 0, 0, 0, 1, 0, 0};
    private static final int[] LIMIT_MOST = {999, 999, 999, 999, 1, 999, 9, 99, 16};
    private static final int NO_QUOTA = 99;
    private static final int MOST_WEIGHT = 9;

    private static final int LOW_EVENT = 0;
    private static final int HIGH_EVENT = 1;
    private static final int MAX_EVENT = 2;
    private static final int KILL_EVENT = 3;
    private static final int EVENTS = 4;

    private static final int BY_LOW = 0;
    private static final int BY_MIN = 1;

    private static final int SOME = 0;
    private static final int FULL = 1;
    private static final int WORK = 2;
    private static final int STALL_KINDS = 3;
    private static final int[] AVERAGE_OVER = {5, 10, 30};
    private static final int AVERAGES = 3;

    private static final int FITS = 0;
    private static final int TOOK = 1;
    private static final int OTHERS_DIED = 2;
    private static final int ITSELF_DIED = 3;

    private static final int MOST_PAGES = 999;
    private static final int MOST_CHARGE = 99;
    private static final int MOST_TODO = 999;
    private static final int MOST_STALL = 20;
    private static final int MOST_ADJ = 10;
    private static final int NEVER_DIES = -10;
    private static final int MOST_BATCH = 8;
    private static final int MOST_CAP = 99;
    private static final int MOST_TICKS = 40;
    private static final int MOST_IDLE = 100;
    private static final int WORST_OVER = 10;
    private static final int PERIOD = 5;
    private static final int TAKE_STEP = 4;
    private static final int PAGES_A_STALL = 4;

    private final World live = new World();
    /** What would come of a call is tried here, so that the live state stays as it is. */
    private final World paper = new World();
    private final Past past = new Past();
    /** Null where no image was made. */
    private final World[] images = new World[IMAGES];
    private final Reclaim reclaim = new Reclaim();
    private final Memory memory = new Memory(reclaim);
    private final Labour labour = new Labour();

    public GroupLimits() {
    }

    // ---- groups, processes

    public int group(int parent) {
        if (!live.tree.has(parent)) {
            return NO_SUCH;
        }
        int g = live.tree.firstFree();
        if (g == NONE) {
            return NO_ROOM;
        }
        past.keep(live);
        live.tree.putGroup(g, parent);
        live.gauges.clearGroup(g);
        return settle(g);
    }

    public int remove(int g) {
        if (!live.tree.has(g)) {
            return NO_SUCH;
        }
        boolean hasChildren = live.tree.bitsBelow(g) != 1 << g;
        if (g == ROOT || hasChildren || live.bitsOfProcesses(g) != 0) {
            return NOT_NOW;
        }
        past.keep(live);
        int parent = live.tree.parent[g];
        live.tree.dropGroup(g);
        live.triggers.dropOf(g);
        return settle(parent);
    }

    public int limit(int g, int what, int v) {
        if (!live.tree.has(g) || outside(what, 0, LIMITS - 1)) {
            return NO_SUCH;
        }
        if (outside(v, LIMIT_LEAST[what], LIMIT_MOST[what])) {
            return BAD_NUMBER;
        }
        past.keep(live);
        return settle(memory.setLimit(live, g, what, v));
    }

    public int process(int g, int adj) {
        if (!live.tree.has(g)) {
            return NO_SUCH;
        }
        if (outside(adj, -MOST_ADJ, MOST_ADJ)) {
            return BAD_NUMBER;
        }
        return startProcess(g, adj);
    }

    public int fork(int p) {
        if (!live.crowd.has(p)) {
            return NO_SUCH;
        }
        return startProcess(live.crowd.home[p], live.crowd.adj[p]);
    }

    public int charge(int p, int kind, int n) {
        int wrong = wrongCharge(p, kind, n);
        if (wrong != 0) {
            return wrong;
        }
        past.keep(live);
        return settle(memory.pressToHigh(live, p, memory.admit(live, p, kind, n)));
    }

    public int uncharge(int p, int kind, int n) {
        int wrong = wrongCharge(p, kind, n);
        if (wrong != 0) {
            return wrong;
        }
        if (live.crowd.pages[kind][p] < n) {
            return NO_ROOM;
        }
        past.keep(live);
        live.giveBack(p, kind, n);
        return settle(live.crowd.pages[kind][p]);
    }

    public int use(int p, int n) {
        if (!live.crowd.has(p)) {
            return NO_SUCH;
        }
        if (outside(n, 1, MOST_CHARGE) || n > live.crowd.swapped[p]) {
            return BAD_NUMBER;
        }
        past.keep(live);
        int told = memory.pressToHigh(live, p, memory.admit(live, p, ANON, n));
        if (outlives(told)) {
            live.swapOut(p, -n);
            live.crowd.addStall(p, stallFor(n));
        }
        return settle(told);
    }

    public int work(int p, int n) {
        if (!live.crowd.has(p)) {
            return NO_SUCH;
        }
        if (outside(n, 1, MOST_TODO)) {
            return BAD_NUMBER;
        }
        past.keep(live);
        live.crowd.todo[p] = Math.min(MOST_TODO, live.crowd.todo[p] + n);
        return settle(live.crowd.todo[p]);
    }

    public int move(int p, int g) {
        if (!live.crowd.has(p) || !live.tree.has(g)) {
            return NO_SUCH;
        }
        if (live.crowd.home[p] == g) {
            return NOT_NOW;
        }
        past.keep(live);
        return settle(memory.moveProcess(live, p, g));
    }

    public int kill(int p) {
        if (!live.crowd.has(p)) {
            return NO_SUCH;
        }
        past.keep(live);
        int held = live.crowd.held(p);
        live.bury(p);
        return settle(held);
    }

    public int take(int g, int n) {
        if (!live.tree.has(g)) {
            return NO_SUCH;
        }
        if (outside(n, 1, MOST_PAGES)) {
            return BAD_NUMBER;
        }
        past.keep(live);
        return settle(reclaim.takePages(live, g, n));
    }

    public int drain(int g) {
        if (!live.tree.has(g)) {
            return NO_SUCH;
        }
        past.keep(live);
        return settle(live.tree.emptyStocks(g));
    }

    public int batch(int b) {
        if (outside(b, 1, MOST_BATCH)) {
            return BAD_NUMBER;
        }
        past.keep(live);
        int before = live.batch;
        live.batch = b;
        return settle(before);
    }

    public int swap(int s) {
        if (outside(s, 0, MOST_PAGES)) {
            return BAD_NUMBER;
        }
        if (live.tree.out[ROOT] > s) {
            return NO_ROOM;
        }
        past.keep(live);
        int before = live.swap;
        live.swap = s;
        return settle(before);
    }

    public int cap(int c) {
        if (outside(c, 0, MOST_CAP)) {
            return BAD_NUMBER;
        }
        past.keep(live);
        int before = live.cap;
        live.cap = c;
        return settle(before);
    }

    public int tick(int n) {
        if (outside(n, 1, MOST_TICKS)) {
            return BAD_NUMBER;
        }
        past.keep(live);
        for (int i = 0; i < n; i++) {
            labour.doWork(live);
            live.noteStalls();
            live.passTick();
        }
        return settle(live.ticks);
    }

    public int trigger(int g, int w, int n) {
        if (!live.tree.has(g)) {
            return NO_SUCH;
        }
        if (outside(w, 1, MOST_TICKS) || outside(n, 1, w)) {
            return BAD_NUMBER;
        }
        if (live.triggers.size >= TRIGGERS) {
            return NO_ROOM;
        }
        past.keep(live);
        return settle(live.triggers.add(g, w, n));
    }

    public int forget() {
        past.keep(live);
        int before = live.triggers.size;
        live.triggers.size = 0;
        return settle(before);
    }

    // ---- how it is

    public int of(int g, int what) {
        if (!live.tree.has(g)) {
            return NO_SUCH;
        }
        if (!outside(what, 0, LIMITS - 1)) {
            return live.tree.limits[what][g];
        }
        switch (what) {
            case 9:
                return live.tree.parent[g];
            case 10:
                return live.crowd.ownPages(g);
            case 11:
                return live.tree.stock[g];
            case 12:
                return live.tree.total[g];
            case 13:
                return live.crowd.pagesIn(g, CACHE);
            case 14:
                return live.tree.out[g];
            case 15:
                return live.tree.got[g];
            default:
                return NO_SUCH;
        }
    }

    public int proc(int p, int what) {
        if (!live.crowd.has(p)) {
            return NO_PROCESS;
        }
        switch (what) {
            case 0:
                return live.crowd.home[p];
            case 1:
                return live.crowd.adj[p];
            case 2:
                return live.crowd.pages[ANON][p];
            case 3:
                return live.crowd.pages[CACHE][p];
            case 4:
                return live.crowd.stall[p];
            case 5:
                return live.crowd.badness(p);
            case 6:
                return live.crowd.swapped[p];
            case 7:
                return live.crowd.todo[p];
            case 8:
                return live.crowd.done[p];
            default:
                return NO_PROCESS;
        }
    }

    public int share(int g, int r, int level) {
        if (!isBelow(g, r) || g == r) {
            return NO_SUCH;
        }
        if (outside(level, BY_LOW, BY_MIN)) {
            return BAD_NUMBER;
        }
        reclaim.partShares(live, r, level);
        return reclaim.shares[g];
    }

    public int spare(int g, int r, int level, int kind) {
        if (!isBelow(g, r)) {
            return NO_SUCH;
        }
        if (outside(level, BY_LOW, BY_MIN) || outside(kind, ANON, CACHE)) {
            return BAD_NUMBER;
        }
        reclaim.measureSpares(live, r, level, kind);
        return reclaim.spares[g];
    }

    public int next(int r, int level, int kind) {
        if (!live.tree.has(r)) {
            return NO_SUCH;
        }
        if (outside(level, BY_LOW, BY_MIN) || outside(kind, ANON, CACHE)) {
            return BAD_NUMBER;
        }
        reclaim.measureSpares(live, r, level, kind);
        return reclaim.richestGroup();
    }

    public int below(int g) {
        return live.tree.has(g) ? live.tree.bitsBelow(g) : NO_SUCH;
    }

    public int procs(int g) {
        return live.tree.has(g) ? live.bitsOfProcesses(g) : NO_SUCH;
    }

    public int common(int g, int other) {
        if (!live.tree.has(g) || !live.tree.has(other)) {
            return NO_SUCH;
        }
        return live.tree.lowestCommon(g, other);
    }

    public int pressure(int g, int kind, int w) {
        if (!live.tree.has(g)) {
            return NO_SUCH;
        }
        if (outside(kind, SOME, WORK) || outside(w, 1, MOST_TICKS)) {
            return BAD_NUMBER;
        }
        return live.gauges.recent(g, kind, w);
    }

    public int average(int g, int kind, int i) {
        if (!live.tree.has(g)) {
            return NO_SUCH;
        }
        if (outside(kind, SOME, WORK) || outside(i, 0, AVERAGES - 1)) {
            return BAD_NUMBER;
        }
        return live.gauges.averages[kind * AVERAGES + i][g];
    }

    public int stalls(int g, int kind) {
        if (!live.tree.has(g)) {
            return NO_SUCH;
        }
        if (outside(kind, SOME, WORK)) {
            return BAD_NUMBER;
        }
        return live.gauges.ever[kind][g];
    }

    public int worst() {
        int worst = NONE;
        int most = 0;
        for (int g = ROOT + 1; g < GROUPS; g++) {
            int stalled = live.tree.has(g) ? live.gauges.recent(g, SOME, WORST_OVER) : 0;
            if (stalled > most) {
                most = stalled;
                worst = g;
            }
        }
        return worst;
    }

    public int units(int k, int what) {
        boolean isGroup = what == 0 && live.tree.has(k);
        boolean isProcess = what == 1 && live.crowd.has(k);
        if (!isGroup && !isProcess) {
            return NO_SUCH;
        }
        labour.plan(live);
        return labour.gets[isGroup ? k : GROUPS + k];
    }

    public int fired(int i, int what) {
        if (i < 0 || i >= live.triggers.size || outside(what, 0, 1)) {
            return NO_SUCH;
        }
        return what == 0 ? live.triggers.times[i] : live.triggers.watched[i];
    }

    public int events(int g, int what) {
        if (!live.tree.has(g) || outside(what, 0, EVENTS - 1)) {
            return NO_SUCH;
        }
        return live.tree.events[what][g];
    }

    // ---- on paper

    public int victim(int r) {
        return live.tree.has(r) ? live.victimBelow(r) : NO_SUCH;
    }

    public int dying(int r) {
        return live.tree.has(r) ? live.dyingBelow(r) : NO_SUCH;
    }

    public int room(int g) {
        return live.tree.has(g) ? live.tree.leastLeft(g) + live.tree.stock[g] : NO_SUCH;
    }

    public int deaths(int g, int v) {
        if (!live.tree.has(g)) {
            return NO_SUCH;
        }
        if (outside(v, LIMIT_LEAST[MAX], LIMIT_MOST[MAX])) {
            return BAD_NUMBER;
        }
        paper.copyFrom(live);
        if (memory.setLimit(paper, g, MAX, v) == NO_ROOM) {
            return 0;
        }
        return live.bitsOfProcesses(ROOT) & ~paper.bitsOfProcesses(ROOT);
    }

    public int taken(int g, int r, int n, int what) {
        if (!isBelow(g, r) || outside(what, 0, 1)) {
            return NO_SUCH;
        }
        if (outside(n, 1, MOST_PAGES)) {
            return BAD_NUMBER;
        }
        paper.copyFrom(live);
        reclaim.takePages(paper, r, n);
        int fromProcesses = live.crowd.ownPages(g) - paper.crowd.ownPages(g);
        int fromStock = live.tree.stock[g] - paper.tree.stock[g];
        return what == 0 ? fromProcesses : fromProcesses + fromStock;
    }

    public int place(int p) {
        if (!live.crowd.has(p)) {
            return NO_SUCH;
        }
        int best = NONE;
        int most = NONE;
        for (int g = 0; g < GROUPS; g++) {
            boolean elsewhere = live.tree.has(g) && live.crowd.home[p] != g;
            int left = elsewhere ? memory.leftBehindMove(live, p, g) : NONE;
            if (left > most) {
                most = left;
                best = g;
            }
        }
        return best;
    }

    public int due(int g) {
        if (!live.tree.has(g)) {
            return NO_SUCH;
        }
        paper.copyFrom(live);
        Arrays.fill(paper.crowd.todo, MOST_TODO);
        Arrays.fill(paper.crowd.stall, 0);
        Arrays.fill(paper.tree.got, 0);
        labour.plan(paper);
        return labour.gets[g];
    }

    public int idle() {
        paper.copyFrom(live);
        for (int ticks = 0; ticks <= MOST_IDLE; ticks++) {
            if (!paper.crowd.hasTodo()) {
                return ticks;
            }
            labour.doWork(paper);
            paper.passTick();
        }
        return NONE;
    }

    public int weigh(int g, int u) {
        if (!live.tree.has(g) || g == ROOT) {
            return NO_SUCH;
        }
        if (outside(u, 1, MOST_CAP)) {
            return BAD_NUMBER;
        }
        paper.copyFrom(live);
        for (int weight = 1; weight <= MOST_WEIGHT; weight++) {
            paper.tree.limits[WEIGHT][g] = weight;
            labour.plan(paper);
            if (labour.gets[g] >= u) {
                return weight;
            }
        }
        return NONE;
    }

    public int pressed(int g) {
        if (!live.tree.has(g)) {
            return NO_SUCH;
        }
        paper.copyFrom(live);
        reclaim.takePages(paper, g, MOST_PAGES);
        return paper.tree.total[g];
    }

    public int would(int p, int kind, int n) {
        int wrong = wrongCharge(p, kind, n);
        if (wrong != 0) {
            return wrong;
        }
        paper.copyFrom(live);
        return memory.admit(paper, p, kind, n);
    }

    public int burst(int p, int kind) {
        int wrong = wrongCharge(p, kind, 1);
        if (wrong != 0) {
            return wrong;
        }
        // From the top, as a lesser charge may be told worse than a greater one.
        for (int n = MOST_CHARGE; n > 0; n--) {
            paper.copyFrom(live);
            int told = memory.admit(paper, p, kind, n);
            if (told == FITS || told == TOOK) {
                return n;
            }
        }
        return 0;
    }

    public int stalled(int p, int kind, int n) {
        int wrong = wrongCharge(p, kind, n);
        if (wrong != 0) {
            return wrong;
        }
        paper.copyFrom(live);
        int told = memory.pressToHigh(paper, p, memory.admit(paper, p, kind, n));
        return outlives(told) ? paper.crowd.stall[p] : NONE;
    }

    // ---- back

    public int undo(int n) {
        if (outside(n, 1, past.size)) {
            return BAD_NUMBER;
        }
        return past.goBack(live, n);
    }

    public int image(int i) {
        if (outside(i, 0, IMAGES - 1)) {
            return NO_SUCH;
        }
        if (images[i] == null) {
            images[i] = new World();
        }
        images[i].copyFrom(live);
        return 0;
    }

    public int restore(int i) {
        if (outside(i, 0, IMAGES - 1)) {
            return NO_SUCH;
        }
        if (images[i] == null) {
            return NO_IMAGE;
        }
        live.copyFrom(images[i]);
        past.size = 0;
        return 0;
    }

    public int count(int what) {
        switch (what) {
            case 0:
                return live.tree.bitsBelow(ROOT);
            case 1:
                return live.bitsOfProcesses(ROOT);
            case 2:
                return live.ticks;
            case 3:
                return live.tree.total[ROOT];
            case 4:
                return live.batch;
            case 5:
                return live.triggers.size;
            case 6:
                return past.size;
            case 7:
                return live.crowd.allPages(ANON);
            case 8:
                return live.crowd.allPages(CACHE);
            case 9:
                return live.tree.total[ROOT] - live.crowd.allPages(ANON) - live.crowd.allPages(CACHE);
            case 10:
                return live.swap;
            case 11:
                return live.tree.out[ROOT];
            case 12:
                return live.cap;
            default:
                return NONE;
        }
    }

    private static boolean outside(int v, int least, int most) {
        return v < least || v > most;
    }

    /** STALL for so many pages: by 4, cut up. */
    private static int stallFor(int pages) {
        return (pages + PAGES_A_STALL - 1) / PAGES_A_STALL;
    }

    /** Whether the process is there still, with its pages, behind a charge that told this. */
    private static boolean outlives(int told) {
        return told == FITS || told == TOOK || told == OTHERS_DIED;
    }

    private boolean isBelow(int g, int r) {
        return live.tree.has(g) && live.tree.has(r) && (live.tree.bitsBelow(r) >> g & 1) == 1;
    }

    /** The code by which a charge of these is refused before it is tried, or 0. */
    private int wrongCharge(int p, int kind, int n) {
        if (!live.crowd.has(p)) {
            return NO_SUCH;
        }
        return outside(kind, ANON, CACHE) || outside(n, 1, MOST_CHARGE) ? BAD_NUMBER : 0;
    }

    private int startProcess(int g, int adj) {
        int p = live.crowd.firstFree();
        if (p == NONE || live.pidsFull(g, NONE)) {
            return NO_ROOM;
        }
        past.keep(live);
        live.crowd.putProcess(p, g, adj);
        return settle(p);
    }

    /** Ends a call that was tried on the live state: a refused one has changed nothing. */
    private int settle(int told) {
        if (told < 0) {
            past.dropTry(live);
        } else {
            past.countKept();
        }
        return told;
    }

    /** The groups: where they stand, their limits, and what is charged in and below each. */
    private static final class Tree {
        final int[] parent = new int[GROUPS];
        /** Each group behind its parent, so that one walk serves for sums and for shares. */
        final int[] order = new int[GROUPS];
        int size;
        final int[][] limits = new int[LIMITS][GROUPS];
        final int[] stock = new int[GROUPS];
        final int[] total = new int[GROUPS];
        final int[] out = new int[GROUPS];
        final int[] got = new int[GROUPS];
        final int[][] events = new int[EVENTS][GROUPS];

        Tree() {
            Arrays.fill(parent, FREE);
            putGroup(ROOT, NONE);
        }

        void copyFrom(Tree other) {
            System.arraycopy(other.parent, 0, parent, 0, GROUPS);
            System.arraycopy(other.order, 0, order, 0, GROUPS);
            size = other.size;
            for (int what = 0; what < LIMITS; what++) {
                System.arraycopy(other.limits[what], 0, limits[what], 0, GROUPS);
            }
            System.arraycopy(other.stock, 0, stock, 0, GROUPS);
            System.arraycopy(other.total, 0, total, 0, GROUPS);
            System.arraycopy(other.out, 0, out, 0, GROUPS);
            System.arraycopy(other.got, 0, got, 0, GROUPS);
            for (int what = 0; what < EVENTS; what++) {
                System.arraycopy(other.events[what], 0, events[what], 0, GROUPS);
            }
        }

        boolean has(int g) {
            return g >= 0 && g < GROUPS && parent[g] != FREE;
        }

        int firstFree() {
            for (int g = 0; g < GROUPS; g++) {
                if (parent[g] == FREE) {
                    return g;
                }
            }
            return NONE;
        }

        void putGroup(int g, int up) {
            parent[g] = up;
            order[size] = g;
            size++;
            for (int what = 0; what < LIMITS; what++) {
                limits[what][g] = LIMIT_AT_FIRST[what];
            }
            stock[g] = 0;
            total[g] = 0;
            out[g] = 0;
            got[g] = 0;
            for (int what = 0; what < EVENTS; what++) {
                events[what][g] = 0;
            }
        }

        void dropGroup(int g) {
            addStock(g, -stock[g]);
            parent[g] = FREE;
            int kept = 0;
            for (int i = 0; i < size; i++) {
                if (order[i] != g) {
                    order[kept] = order[i];
                    kept++;
                }
            }
            size = kept;
        }

        int bitsBelow(int r) {
            int bits = 1 << r;
            for (int i = 1; i < size; i++) {
                if ((bits >> parent[order[i]] & 1) == 1) {
                    bits |= 1 << order[i];
                }
            }
            return bits;
        }

        int pathBits(int g) {
            int bits = 0;
            int at = g;
            for (int step = 0; at != NONE && step < GROUPS; step++) {
                bits |= 1 << at;
                at = parent[at];
            }
            return bits;
        }

        int lowestCommon(int g, int other) {
            int path = pathBits(other);
            int at = g;
            for (int step = 0; (path >> at & 1) == 0 && at != ROOT && step < GROUPS; step++) {
                at = parent[at];
            }
            return at;
        }

        /** The first of the path, from g on up, that would be above MAX by n pages more. */
        int firstAboveMax(int g, int n) {
            int at = g;
            for (int step = 0; at != NONE && step < GROUPS; step++) {
                if (total[at] + n > limits[MAX][at]) {
                    return at;
                }
                at = parent[at];
            }
            return NONE;
        }

        int leastLeft(int g) {
            int least = MOST_PAGES;
            int at = g;
            for (int step = 0; at != NONE && step < GROUPS; step++) {
                least = Math.min(least, limits[MAX][at] - total[at]);
                at = parent[at];
            }
            return least;
        }

        void addTotal(int g, int pages) {
            int at = g;
            for (int step = 0; at != NONE && step < GROUPS; step++) {
                total[at] += pages;
                at = parent[at];
            }
        }

        void addOut(int g, int pages) {
            int at = g;
            for (int step = 0; at != NONE && step < GROUPS; step++) {
                out[at] += pages;
                at = parent[at];
            }
        }

        void addStock(int g, int pages) {
            stock[g] += pages;
            addTotal(g, pages);
        }

        int emptyStocks(int r) {
            int bits = bitsBelow(r);
            int pages = 0;
            for (int g = 0; g < GROUPS; g++) {
                if ((bits >> g & 1) == 1 && stock[g] > 0) {
                    pages += stock[g];
                    addStock(g, -stock[g]);
                }
            }
            return pages;
        }
    }

    /** The processes and what is theirs. */
    private static final class Crowd {
        /** The group of each, NONE where there is no process. */
        final int[] home = new int[PROCESSES];
        final int[] adj = new int[PROCESSES];
        final int[][] pages = new int[KINDS][PROCESSES];
        final int[] swapped = new int[PROCESSES];
        final int[] stall = new int[PROCESSES];
        final int[] todo = new int[PROCESSES];
        final int[] done = new int[PROCESSES];

        Crowd() {
            Arrays.fill(home, NONE);
        }

        void copyFrom(Crowd other) {
            System.arraycopy(other.home, 0, home, 0, PROCESSES);
            System.arraycopy(other.adj, 0, adj, 0, PROCESSES);
            System.arraycopy(other.pages[ANON], 0, pages[ANON], 0, PROCESSES);
            System.arraycopy(other.pages[CACHE], 0, pages[CACHE], 0, PROCESSES);
            System.arraycopy(other.swapped, 0, swapped, 0, PROCESSES);
            System.arraycopy(other.stall, 0, stall, 0, PROCESSES);
            System.arraycopy(other.todo, 0, todo, 0, PROCESSES);
            System.arraycopy(other.done, 0, done, 0, PROCESSES);
        }

        boolean has(int p) {
            return p >= 0 && p < PROCESSES && home[p] != NONE;
        }

        int firstFree() {
            for (int p = 0; p < PROCESSES; p++) {
                if (home[p] == NONE) {
                    return p;
                }
            }
            return NONE;
        }

        /** NONE as the group is for one that is no more. */
        void putProcess(int p, int g, int itsAdj) {
            home[p] = g;
            adj[p] = itsAdj;
            pages[ANON][p] = 0;
            pages[CACHE][p] = 0;
            swapped[p] = 0;
            stall[p] = 0;
            todo[p] = 0;
            done[p] = 0;
        }

        int held(int p) {
            return pages[ANON][p] + pages[CACHE][p];
        }

        int badness(int p) {
            return held(p) + swapped[p] + 10 * adj[p];
        }

        int pagesIn(int g, int kind) {
            int sum = 0;
            for (int p = 0; p < PROCESSES; p++) {
                sum += home[p] == g ? pages[kind][p] : 0;
            }
            return sum;
        }

        /** pagesIn() of all groups at once, into a row. */
        void sumByGroup(int kind, int[] row) {
            Arrays.fill(row, 0);
            for (int p = 0; p < PROCESSES; p++) {
                if (home[p] != NONE) {
                    row[home[p]] += pages[kind][p];
                }
            }
        }

        int ownPages(int g) {
            return pagesIn(g, ANON) + pagesIn(g, CACHE);
        }

        int allPages(int kind) {
            int sum = 0;
            for (int p = 0; p < PROCESSES; p++) {
                sum += pages[kind][p];
            }
            return sum;
        }

        /** The process in a group with the most pages of a kind, NONE if there are no such pages. */
        int richestIn(int g, int kind) {
            int richest = NONE;
            int most = 0;
            for (int p = 0; p < PROCESSES; p++) {
                if (home[p] == g && pages[kind][p] > most) {
                    most = pages[kind][p];
                    richest = p;
                }
            }
            return richest;
        }

        void addStall(int p, int ticks) {
            stall[p] = Math.min(MOST_STALL, stall[p] + ticks);
        }

        void fadeStalls() {
            for (int p = 0; p < PROCESSES; p++) {
                stall[p] = Math.max(0, stall[p] - 1);
            }
        }

        boolean hasTodo() {
            for (int p = 0; p < PROCESSES; p++) {
                if (todo[p] > 0) {
                    return true;
                }
            }
            return false;
        }
    }

    /** In which ticks each group was stalled, by the three kinds of stall. */
    private static final class Gauges {
        /** A bit a tick, the latest lowest; 64 of them, so that also what 40 were a tick ago is here. */
        final long[][] history = new long[STALL_KINDS][GROUPS];
        final int[][] ever = new int[STALL_KINDS][GROUPS];
        final int[][] averages = new int[STALL_KINDS * AVERAGES][GROUPS];

        void copyFrom(Gauges other) {
            for (int kind = 0; kind < STALL_KINDS; kind++) {
                System.arraycopy(other.history[kind], 0, history[kind], 0, GROUPS);
                System.arraycopy(other.ever[kind], 0, ever[kind], 0, GROUPS);
            }
            for (int row = 0; row < STALL_KINDS * AVERAGES; row++) {
                System.arraycopy(other.averages[row], 0, averages[row], 0, GROUPS);
            }
        }

        void clearGroup(int g) {
            for (int kind = 0; kind < STALL_KINDS; kind++) {
                history[kind][g] = 0;
                ever[kind][g] = 0;
            }
            for (int row = 0; row < STALL_KINDS * AVERAGES; row++) {
                averages[row][g] = 0;
            }
        }

        void note(int g, int kind, boolean isStalled) {
            history[kind][g] = history[kind][g] << 1 | (isStalled ? 1 : 0);
            ever[kind][g] += isStalled ? 1 : 0;
            for (int i = 0; i < AVERAGES; i++) {
                int over = AVERAGE_OVER[i];
                int[] row = averages[kind * AVERAGES + i];
                row[g] = over <= 0 ? 0 : ((over - 1) * row[g] + (isStalled ? 1000 : 0)) / over;
            }
        }

        int recent(int g, int kind, int ticks) {
            return Long.bitCount(history[kind][g] & lowBits(ticks));
        }

        /** recent(), as it was ahead of the latest tick. */
        int recentAhead(int g, int kind, int ticks) {
            return Long.bitCount(history[kind][g] >>> 1 & lowBits(ticks));
        }

        private static long lowBits(int n) {
            return (1L << n) - 1;
        }
    }

    /** Those who watch a group's stalls. */
    private static final class Triggers {
        final int[] watched = new int[TRIGGERS];
        final int[] window = new int[TRIGGERS];
        final int[] need = new int[TRIGGERS];
        final int[] times = new int[TRIGGERS];
        int size;

        void copyFrom(Triggers other) {
            System.arraycopy(other.watched, 0, watched, 0, TRIGGERS);
            System.arraycopy(other.window, 0, window, 0, TRIGGERS);
            System.arraycopy(other.need, 0, need, 0, TRIGGERS);
            System.arraycopy(other.times, 0, times, 0, TRIGGERS);
            size = other.size;
        }

        int add(int g, int ticks, int n) {
            int i = size;
            watched[i] = g;
            window[i] = ticks;
            need[i] = n;
            times[i] = 0;
            size++;
            return i;
        }

        void dropOf(int g) {
            int kept = 0;
            for (int i = 0; i < size; i++) {
                if (watched[i] != g) {
                    watched[kept] = watched[i];
                    window[kept] = window[i];
                    need[kept] = need[i];
                    times[kept] = times[i];
                    kept++;
                }
            }
            size = kept;
        }

        void fire(Gauges gauges) {
            for (int i = 0; i < size; i++) {
                boolean isSo = gauges.recent(watched[i], SOME, window[i]) >= need[i];
                boolean wasSo = gauges.recentAhead(watched[i], SOME, window[i]) >= need[i];
                if (isSo && !wasSo) {
                    times[i]++;
                }
            }
        }
    }

    /** All that a call may change and that can be undone: groups, processes, and what they share. */
    private static final class World {
        final Tree tree = new Tree();
        final Crowd crowd = new Crowd();
        final Gauges gauges = new Gauges();
        final Triggers triggers = new Triggers();
        int batch = 4;
        int swap = 0;
        int cap = 10;
        int ticks = 0;

        void copyFrom(World other) {
            tree.copyFrom(other.tree);
            crowd.copyFrom(other.crowd);
            gauges.copyFrom(other.gauges);
            triggers.copyFrom(other.triggers);
            batch = other.batch;
            swap = other.swap;
            cap = other.cap;
            ticks = other.ticks;
        }

        int bitsOfProcesses(int g) {
            int groups = tree.bitsBelow(g);
            int bits = 0;
            for (int p = 0; p < PROCESSES; p++) {
                if (crowd.home[p] != NONE && (groups >> crowd.home[p] & 1) == 1) {
                    bits |= 1 << p;
                }
            }
            return bits;
        }

        /** Whether one of the path from g on up, ahead of the group end, has as many processes as PIDS lets it. */
        boolean pidsFull(int g, int end) {
            int at = g;
            for (int step = 0; at != NONE && at != end && step < GROUPS; step++) {
                if (Integer.bitCount(bitsOfProcesses(at)) >= tree.limits[PIDS][at]) {
                    return true;
                }
                at = tree.parent[at];
            }
            return false;
        }

        void addPages(int p, int kind, int n) {
            crowd.pages[kind][p] += n;
            tree.addTotal(crowd.home[p], n);
        }

        void swapOut(int p, int n) {
            crowd.swapped[p] += n;
            tree.addOut(crowd.home[p], n);
        }

        void giveBack(int p, int kind, int n) {
            int g = crowd.home[p];
            addPages(p, kind, -n);
            tree.addStock(g, n);
            if (tree.stock[g] > batch) {
                tree.addStock(g, -tree.stock[g]);
            }
        }

        void bury(int p) {
            tree.addTotal(crowd.home[p], -crowd.held(p));
            tree.addOut(crowd.home[p], -crowd.swapped[p]);
            crowd.putProcess(p, NONE, 0);
        }

        void relocate(int p, int g) {
            tree.addTotal(crowd.home[p], -crowd.held(p));
            tree.addOut(crowd.home[p], -crowd.swapped[p]);
            crowd.home[p] = g;
            tree.addTotal(g, crowd.held(p));
            tree.addOut(g, crowd.swapped[p]);
        }

        /** The processes below a group that a death may strike. */
        int mortalBelow(int g) {
            int bits = bitsOfProcesses(g);
            for (int p = 0; p < PROCESSES; p++) {
                if (crowd.adj[p] == NEVER_DIES) {
                    bits &= ~(1 << p);
                }
            }
            return bits;
        }

        int victimBelow(int r) {
            int bits = bitsOfProcesses(r);
            int worst = NONE;
            for (int p = 0; p < PROCESSES; p++) {
                boolean mortal = (bits >> p & 1) == 1 && crowd.adj[p] != NEVER_DIES;
                if (mortal && (worst == NONE || crowd.badness(p) > crowd.badness(worst))) {
                    worst = p;
                }
            }
            return worst;
        }

        int dyingBelow(int r) {
            int first = victimBelow(r);
            if (first == NONE) {
                return 0;
            }
            int top = NONE;
            int at = crowd.home[first];
            for (int step = 0; at != NONE && at != tree.parent[r] && step < GROUPS; step++) {
                if (tree.limits[WHOLE][at] == 1) {
                    top = at;
                }
                at = tree.parent[at];
            }
            return top == NONE ? 1 << first : mortalBelow(top);
        }

        /** A death below r: who died, as bits. */
        int strike(int r) {
            int dead = dyingBelow(r);
            for (int p = 0; p < PROCESSES; p++) {
                if ((dead >> p & 1) == 1) {
                    bury(p);
                }
            }
            tree.events[KILL_EVENT][r] += Integer.bitCount(dead);
            return dead;
        }

        void noteStalls() {
            int some = 0;
            int awake = 0;
            int waiting = 0;
            for (int p = 0; p < PROCESSES; p++) {
                int path = crowd.home[p] == NONE ? 0 : tree.pathBits(crowd.home[p]);
                if (crowd.stall[p] > 0) {
                    some |= path;
                } else {
                    awake |= path;
                    waiting |= crowd.todo[p] > 0 ? path : 0;
                }
            }
            for (int i = 0; i < tree.size; i++) {
                int g = tree.order[i];
                gauges.note(g, SOME, (some >> g & 1) == 1);
                gauges.note(g, FULL, ((some & ~awake) >> g & 1) == 1);
                gauges.note(g, WORK, (waiting >> g & 1) == 1);
            }
            triggers.fire(gauges);
        }

        void passTick() {
            crowd.fadeStalls();
            ticks++;
        }
    }

    /** Protection, and what can be taken without breaking it. */
    private static final class Reclaim {
        /** Each step takes a page at least, or ends one of the four ways of taking. */
        private static final int MOST_STEPS = 2000;
        private static final int WAYS = 4;

        /** Of the groups below the r that was measured, r not with them. */
        final int[] shares = new int[GROUPS];
        /** 0 for groups that aren't below the r that was measured. */
        final int[] spares = new int[GROUPS];
        private final int[] claims = new int[GROUPS];
        private final int[] claimsBelow = new int[GROUPS];
        private final int[] unprotected = new int[GROUPS];
        private final int[] swapLeft = new int[GROUPS];

        void partShares(World w, int r, int level) {
            Tree tree = w.tree;
            int[] wanted = tree.limits[level == BY_LOW ? LOW : MIN];
            int below = tree.bitsBelow(r);
            Arrays.fill(claimsBelow, 0);
            for (int i = 1; i < tree.size; i++) {
                int g = tree.order[i];
                claims[g] = Math.min(wanted[g], tree.total[g]);
                claimsBelow[tree.parent[g]] += claims[g];
            }
            for (int i = 1; i < tree.size; i++) {
                int g = tree.order[i];
                int up = tree.parent[g];
                if ((below >> up & 1) == 0) {
                    continue;
                }
                boolean whole = up == r || claimsBelow[up] <= shares[up] || claimsBelow[up] <= 0;
                shares[g] = whole ? claims[g] : claims[g] * shares[up] / claimsBelow[up];
            }
        }

        void measureSpares(World w, int r, int level, int kind) {
            Tree tree = w.tree;
            partShares(w, r, level);
            measureSwap(w);
            int below = tree.bitsBelow(r);
            w.crowd.sumByGroup(kind, spares);
            for (int i = 0; i < tree.size; i++) {
                int g = tree.order[i];
                if ((below >> g & 1) == 0) {
                    spares[g] = 0;
                    continue;
                }
                int over = tree.total[g] - shares[g];
                unprotected[g] = g == r ? MOST_PAGES : Math.min(unprotected[tree.parent[g]], over);
                int most = kind == ANON ? Math.min(unprotected[g], swapLeft[g]) : unprotected[g];
                spares[g] = Math.min(most, spares[g]);
            }
        }

        private void measureSwap(World w) {
            Tree tree = w.tree;
            for (int i = 0; i < tree.size; i++) {
                int g = tree.order[i];
                int above = g == ROOT ? w.swap - tree.out[ROOT] : swapLeft[tree.parent[g]];
                int own = Math.max(0, tree.limits[SWAPMAX][g] - tree.out[g]);
                swapLeft[g] = Math.min(above, own);
            }
        }

        int richestGroup() {
            int richest = NONE;
            int most = 0;
            for (int g = 0; g < GROUPS; g++) {
                if (spares[g] > most) {
                    most = spares[g];
                    richest = g;
                }
            }
            return richest;
        }

        /** Takes n pages from r: how many were. The ways are cache, then anon, by LOW; then so by MIN. */
        int takePages(World w, int r, int n) {
            int taken = w.tree.emptyStocks(r);
            int way = 0;
            for (int step = 0; taken < n && way < WAYS && step < MOST_STEPS; step++) {
                int kind = way % 2 == 0 ? CACHE : ANON;
                measureSpares(w, r, way < 2 ? BY_LOW : BY_MIN, kind);
                int g = richestGroup();
                if (g != NONE) {
                    taken += takeStep(w, g, kind, n - taken);
                    continue;
                }
                way++;
                if (way == 2) {
                    w.tree.events[LOW_EVENT][r]++;
                }
            }
            return taken;
        }

        private int takeStep(World w, int g, int kind, int left) {
            int p = w.crowd.richestIn(g, kind);
            if (p == NONE) {
                return 0;
            }
            int most = Math.min(TAKE_STEP, Math.min(left, spares[g]));
            int n = Math.min(most, w.crowd.pages[kind][p]);
            w.addPages(p, kind, -n);
            if (kind == ANON) {
                w.swapOut(p, n);
            }
            return n;
        }
    }

    /** Pages under hard and soft bounds. */
    private static final class Memory {
        /** A round frees a group of the path for good, or somebody dies in it. */
        private static final int MOST_ROUNDS = 100;

        private final Reclaim reclaim;

        Memory(Reclaim reclaim) {
            this.reclaim = reclaim;
        }

        /** A charge up to where HIGH is looked at: what it tells; refused, it may have changed much. */
        int admit(World w, int p, int kind, int n) {
            int g = w.crowd.home[p];
            if (w.tree.stock[g] >= n) {
                w.tree.addStock(g, -n);
                w.addPages(p, kind, n);
                return FITS;
            }
            int wanted = Math.max(n, w.batch);
            if (w.tree.firstAboveMax(g, wanted) == NONE) {
                w.addPages(p, kind, n);
                w.tree.addStock(g, wanted - n);
                return FITS;
            }
            int told = makeRoom(w, p, n);
            if (outlives(told)) {
                w.addPages(p, kind, n);
            }
            return told;
        }

        private int makeRoom(World w, int p, int n) {
            int g = w.crowd.home[p];
            int told = FITS;
            for (int round = 0; round < MOST_ROUNDS; round++) {
                int full = w.tree.firstAboveMax(g, n);
                if (full == NONE) {
                    return told;
                }
                if (fitsUnderMax(w, full, n)) {
                    told = Math.max(told, TOOK);
                    continue;
                }
                int dead = w.strike(full);
                if (dead == 0) {
                    return NO_ROOM;
                }
                if ((dead >> p & 1) == 1) {
                    return ITSELF_DIED;
                }
                told = OTHERS_DIED;
            }
            return told;
        }

        /** Takes from a group that n pages more would put above MAX, with the event: whether they fit then. */
        private boolean fitsUnderMax(World w, int g, int n) {
            int bound = w.tree.limits[MAX][g] - n;
            w.tree.events[MAX_EVENT][g]++;
            reclaim.takePages(w, g, w.tree.total[g] - bound);
            return w.tree.total[g] <= bound;
        }

        /** Ends a charge that told this so far, by HIGH: what it tells. */
        int pressToHigh(World w, int p, int told) {
            Tree tree = w.tree;
            int at = outlives(told) ? w.crowd.home[p] : NONE;
            for (int step = 0; at != NONE && step < GROUPS; step++) {
                int high = tree.limits[HIGH][at];
                if (tree.total[at] > high) {
                    tree.events[HIGH_EVENT][at]++;
                    reclaim.takePages(w, at, tree.total[at] - high);
                    w.crowd.addStall(p, stallFor(Math.max(0, tree.total[at] - high)));
                }
                at = tree.parent[at];
            }
            return told;
        }

        int setLimit(World w, int g, int what, int v) {
            Tree tree = w.tree;
            tree.limits[what][g] = v;
            boolean isBound = what == HIGH || what == MAX;
            if (isBound && tree.total[g] > v) {
                reclaim.takePages(w, g, tree.total[g] - v);
            }
            // Each death is one process at least.
            for (int i = 0; what == MAX && tree.total[g] > v && i <= PROCESSES; i++) {
                if (w.strike(g) == 0) {
                    return NO_ROOM;
                }
            }
            return tree.total[g];
        }

        int moveProcess(World w, int p, int g) {
            int old = w.crowd.home[p];
            int end = w.tree.lowestCommon(g, old);
            if (mayNotJoin(w, p, g, end)) {
                return NO_ROOM;
            }
            int held = w.crowd.held(p);
            int at = g;
            for (int step = 0; at != NONE && at != end && step < GROUPS; step++) {
                boolean fits = w.tree.total[at] + held <= w.tree.limits[MAX][at];
                if (!fits && !fitsUnderMax(w, at, held)) {
                    return NO_ROOM;
                }
                at = w.tree.parent[at];
            }
            w.relocate(p, g);
            return old;
        }

        /** Whether PIDS or SWAPMAX of a group that would be new in its path, from g on up ahead of end, keep it out. */
        private boolean mayNotJoin(World w, int p, int g, int end) {
            if (w.pidsFull(g, end)) {
                return true;
            }
            int swapped = w.crowd.swapped[p];
            int at = g;
            for (int step = 0; swapped > 0 && at != NONE && at != end && step < GROUPS; step++) {
                if (w.tree.out[at] + swapped > w.tree.limits[SWAPMAX][at]) {
                    return true;
                }
                at = w.tree.parent[at];
            }
            return false;
        }

        /** The least left below MAX in the path of g, were the process there; below 0 if it can't be without taking. */
        int leftBehindMove(World w, int p, int g) {
            int end = w.tree.lowestCommon(g, w.crowd.home[p]);
            if (mayNotJoin(w, p, g, end)) {
                return NONE;
            }
            int least = w.tree.leastLeft(end);
            int at = g;
            for (int step = 0; at != NONE && at != end && step < GROUPS; step++) {
                int left = w.tree.limits[MAX][at] - w.tree.total[at] - w.crowd.held(p);
                least = Math.min(least, left);
                at = w.tree.parent[at];
            }
            return least;
        }
    }

    /** Units of work, shared down the tree. Its rows have the groups first, the processes behind them. */
    private static final class Labour {
        private static final int MEMBERS = GROUPS + PROCESSES;

        final int[] gets = new int[MEMBERS];
        private final int[] asks = new int[MEMBERS];

        /** Lays out what each would get in the next tick. */
        void plan(World w) {
            collectAsks(w);
            Arrays.fill(gets, 0);
            gets[ROOT] = Math.min(w.cap, asks[ROOT]);
            for (int i = 0; i < w.tree.size; i++) {
                int g = w.tree.order[i];
                int left = gets[g];
                // A round gives one unit at least, as long as somebody asks.
                for (int round = 0; left > 0 && round <= MOST_CAP; round++) {
                    left -= giveRound(w, g, left);
                }
            }
        }

        void doWork(World w) {
            if (w.ticks % PERIOD == 0) {
                Arrays.fill(w.tree.got, 0);
            }
            plan(w);
            for (int g = 0; g < GROUPS; g++) {
                w.tree.got[g] += gets[g];
            }
            for (int p = 0; p < PROCESSES; p++) {
                w.crowd.todo[p] -= gets[GROUPS + p];
                w.crowd.done[p] += gets[GROUPS + p];
            }
        }

        private void collectAsks(World w) {
            Arrays.fill(asks, 0);
            for (int p = 0; p < PROCESSES; p++) {
                int home = w.crowd.home[p];
                if (home != NONE && w.crowd.stall[p] == 0) {
                    asks[GROUPS + p] = w.crowd.todo[p];
                    asks[home] += w.crowd.todo[p];
                }
            }
            for (int i = w.tree.size - 1; i >= 0; i--) {
                int g = w.tree.order[i];
                asks[g] = Math.min(asks[g], quotaLeft(w, g));
                if (g != ROOT) {
                    asks[w.tree.parent[g]] += asks[g];
                }
            }
        }

        private static int quotaLeft(World w, int g) {
            int quota = w.tree.limits[QUOTA][g];
            if (quota == NO_QUOTA) {
                return PROCESSES * MOST_TODO;
            }
            // The next tick may begin a period, in which nobody has got any.
            int got = w.ticks % PERIOD == 0 ? 0 : w.tree.got[g];
            return Math.max(0, quota - got);
        }

        /** One round of parting what is left among the members of a group: how many units it gave. */
        private int giveRound(World w, int g, int left) {
            int weights = 0;
            int heaviest = NONE;
            for (int m = 0; m < MEMBERS; m++) {
                int weight = askingWeight(w, g, m);
                weights += weight;
                if (weight > 0 && (heaviest == NONE || weight > askingWeight(w, g, heaviest))) {
                    heaviest = m;
                }
            }
            if (heaviest == NONE || weights <= 0) {
                return 0;
            }
            int given = 0;
            for (int m = 0; m < MEMBERS; m++) {
                int part = Math.min(left * askingWeight(w, g, m) / weights, asks[m] - gets[m]);
                gets[m] += part;
                given += part;
            }
            if (given == 0) {
                gets[heaviest]++;
                given = 1;
            }
            return given;
        }

        /** The weight of a member of a group that asks for more, 0 for all others. */
        private int askingWeight(World w, int g, int m) {
            if (asks[m] <= gets[m]) {
                return 0;
            }
            if (m >= GROUPS) {
                return w.crowd.home[m - GROUPS] == g ? 1 : 0;
            }
            return w.tree.parent[m] == g ? w.tree.limits[WEIGHT][m] : 0;
        }
    }

    /** What was, for the latest calls that can be undone. */
    private static final class Past {
        /** One more than can be undone: the state ahead of a call that may yet be refused stands there. */
        private static final int SLOTS = UNDOS + 1;

        int size;
        private int eldest;
        private final World[] kept = new World[SLOTS];

        Past() {
            for (int i = 0; i < SLOTS; i++) {
                kept[i] = new World();
            }
        }

        private World slot(int i) {
            return kept[(eldest + i) % SLOTS];
        }

        void keep(World w) {
            slot(size).copyFrom(w);
        }

        void countKept() {
            if (size < UNDOS) {
                size++;
            } else {
                eldest = (eldest + 1) % SLOTS;
            }
        }

        void dropTry(World w) {
            w.copyFrom(slot(size));
        }

        int goBack(World w, int n) {
            size -= n;
            w.copyFrom(slot(size));
            return size;
        }
    }
}
