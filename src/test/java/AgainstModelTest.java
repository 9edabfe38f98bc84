import java.lang.reflect.Method;
import java.util.ArrayList;
import java.util.Arrays;
import java.util.List;
import java.util.Random;

/** Random runs of calls, each call made on GroupLimits and on the plain model: all answers must be the same. */
public final class AgainstModelTest {
    private static final int CALLS = 512;

    /** A call: its weight among all, its name, and what its arguments are. */
    private static final String[] CALL_KINDS = {
        "4 group G", "1 remove G", "7 limit G what value", "7 limit G protection value",
        "5 process G adj", "2 fork P", "28 charge P kind pages",
        "6 uncharge P kind few", "6 use P swapped", "5 work P units", "5 move P G", "1 kill P", "3 take G many", "2 drain G",
        "1 batch batch", "2 swap swap", "1 cap cap", "4 tick ticks", "2 trigger G window need", "1 forget",
        "2 of G of", "2 proc P proc", "4 share G R level", "4 spare G R level kind", "3 next G level kind", "1 below G",
        "1 procs G", "1 common G G", "1 pressure G stall window", "1 average G stall avg", "1 stalls G stall", "1 worst",
        "3 units K bit", "2 fired trigger bit", "1 events G event", "1 victim G", "1 dying G", "1 room G",
        "3 deaths G bound", "3 taken G R many bit", "3 place P", "2 due G", "1 idle", "2 weigh G units", "1 pressed G",
        "2 would P kind pages", "1 burst P kind", "2 stalled P kind pages", "3 undo undo", "2 image image",
        "1 restore image", "2 count count"};

    /** A run begins with some of these, so that there is something to go on with. */
    private static final String[] SET_UP = {"3 group G", "4 process G adj", "2 charge P kind pages", "1 swap swap",
        "3 limit G protection value"};
    private static final int SET_UP_CALLS = 40;

    private final Random random;
    private final GroupLimits program = new GroupLimits();
    private final PlainModel model = new PlainModel();
    private final List<String> told = new ArrayList<>();
    /** How large numbers are, so that some runs are crowded and some are not. */
    private final int scale;

    private AgainstModelTest(long seed) {
        random = new Random(seed);
        scale = 1 + random.nextInt(4);
    }

    public static void main(String[] args) throws Exception {
        int runs = args.length > 0 ? Integer.parseInt(args[0]) : 40;
        long first = args.length > 1 ? Long.parseLong(args[1]) : 1;
        for (long seed = first; seed < first + runs; seed++) {
            AgainstModelTest run = new AgainstModelTest(seed);
            if (!run.passes()) {
                System.out.println("seed " + seed + ":");
                for (String line : run.told) {
                    System.out.println("  " + line);
                }
                System.exit(1);
            }
        }
        System.out.println(runs + " random runs, all answers as the plain model's");
    }

    private boolean passes() throws Exception {
        for (int i = 0; i < CALLS; i++) {
            String[] words = oneOf(i < SET_UP_CALLS ? SET_UP : CALL_KINDS);
            if (!agree(words) || i % 4 == 0 && !sameState()) {
                return false;
            }
        }
        return true;
    }

    private String[] oneOf(String[] kinds) {
        int weights = 0;
        for (String kind : kinds) {
            weights += Integer.parseInt(kind.split(" ")[0]);
        }
        int at = random.nextInt(weights);
        for (String kind : kinds) {
            String[] words = kind.split(" ");
            at -= Integer.parseInt(words[0]);
            if (at < 0) {
                return words;
            }
        }
        throw new IllegalStateException();
    }

    private boolean agree(String[] words) throws Exception {
        Object[] args = new Object[words.length - 2];
        int last = 0;
        for (int i = 0; i < args.length; i++) {
            last = random.nextInt(60) == 0 ? odd() : argument(words[i + 2], last);
            args[i] = last;
        }
        return sameAnswer(words[1], args);
    }

    private boolean sameAnswer(String name, Object... args) throws Exception {
        Class<?>[] types = new Class<?>[args.length];
        Arrays.fill(types, int.class);
        Method due = PlainModel.class.getDeclaredMethod(name, types);
        Method mine = GroupLimits.class.getDeclaredMethod(name, types);
        Object want = due.invoke(model, args);
        Object got = mine.invoke(program, args);
        told.add(name + Arrays.toString(args) + " answered " + got + (got.equals(want) ? "" : ", due is " + want));
        return got.equals(want);
    }

    /** All that can be seen of the state, but for the calls on paper. */
    private boolean sameState() throws Exception {
        int mark = told.size();
        boolean same = true;
        for (int what = 0; same && what <= 12; what++) {
            same = sameAnswer("count", what);
        }
        for (int g = 0; same && g < 12; g++) {
            for (int what = 0; same && what <= 15; what++) {
                same = sameAnswer("of", g, what) && sameAnswer("events", g, what % 4)
                    && sameAnswer("average", g, what % 3, what / 3 % 3) && sameAnswer("stalls", g, what % 3)
                    && sameAnswer("pressure", g, what % 3, 3 + 37 * (what / 9));
            }
        }
        for (int p = 0; same && p < 16; p++) {
            for (int what = 0; same && what <= 8; what++) {
                same = sameAnswer("proc", p, what);
            }
        }
        for (int i = 0; same && i < 8; i++) {
            same = sameAnswer("fired", i / 2, i % 2);
        }
        while (same && told.size() > mark) {
            told.remove(told.size() - 1);
        }
        return same;
    }

    private int odd() {
        int[] some = {-1, -2, 1000, 100, 41, 17, 16, 12, 10, 9, Integer.MIN_VALUE, Integer.MAX_VALUE, 0};
        return some[random.nextInt(some.length)];
    }

    private int between(int least, int most) {
        return least + random.nextInt(most - least + 1);
    }

    private int oneOf(int bits) {
        int n = Integer.bitCount(bits);
        if (n == 0) {
            return 0;
        }
        int skip = random.nextInt(n);
        for (int i = 0; i < 31; i++) {
            if ((bits >> i & 1) == 1 && skip-- == 0) {
                return i;
            }
        }
        return 0;
    }

    private int limitValue(int what) {
        switch (what) {
            case 4:
                return between(0, 1);
            case 5:
                return between(0, 12 * scale);
            case 6:
                return between(1, 9);
            case 7:
                return random.nextInt(3) == 0 ? 99 : between(0, 25);
            case 8:
                return between(2, 16);
            case 3:
                return random.nextInt(3) == 0 ? 999 : between(5, 60 * scale);
            case 2:
                return random.nextInt(3) == 0 ? 999 : between(0, 50 * scale);
            default:
                return between(0, 25 * scale);
        }
    }

    private int argument(String what, int before) {
        switch (what) {
            case "G":
                return oneOf(model.count(0));
            case "P":
                return oneOf(model.count(1));
            case "R":
                int up = before;
                while (random.nextInt(3) > 0 && model.of(up, 9) >= 0) {
                    up = model.of(up, 9);
                }
                return up;
            case "swapped":
                return between(1, Math.max(1, Math.min(99, model.proc(before, 6) + 1)));
            case "K":
                return oneOf(model.count(0) | model.count(1));
            case "what":
                return between(0, 8);
            case "protection":
                return between(0, 1);
            case "value":
                return limitValue(before);
            case "bound":
                return between(0, 60 * scale);
            case "adj":
                return random.nextInt(6) == 0 ? -10 : between(-10, 10);
            case "kind":
            case "level":
            case "bit":
            case "image":
                return between(0, 1);
            case "pages":
                return random.nextInt(2) == 0 ? between(1, 6) : between(1, 24 * scale);
            case "few":
                return between(1, 7);
            case "units":
                return between(1, 12 * scale);
            case "many":
                return between(1, 50 * scale);
            case "batch":
                return between(1, 8);
            case "swap":
                return between(0, 60 * scale);
            case "cap":
                return between(0, 40);
            case "ticks":
                return random.nextInt(4) == 0 ? between(1, 40) : between(1, 4);
            case "window":
                return random.nextInt(4) == 0 ? between(1, 40) : between(1, 6);
            case "need":
                return between(1, Math.max(1, Math.min(before, 40)));
            case "of":
                return between(0, 15);
            case "proc":
                return between(0, 8);
            case "stall":
            case "avg":
                return between(0, 2);
            case "trigger":
            case "event":
                return between(0, 3);
            case "undo":
                return random.nextInt(3) == 0 ? between(1, 10) : 1;
            case "count":
                return between(0, 12);
            default:
                throw new IllegalStateException(what);
        }
    }
}
