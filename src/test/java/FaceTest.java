import java.io.IOException;
import java.lang.reflect.Constructor;
import java.lang.reflect.Executable;
import java.lang.reflect.Field;
import java.lang.reflect.Method;
import java.lang.reflect.Modifier;
import java.nio.file.Files;
import java.nio.file.Path;
import java.util.Set;
import java.util.StringJoiner;
import java.util.TreeSet;

/** What the document says ahead of its terms: the public face, line by line, and that an object is used for 512 calls. */
public final class FaceTest {
    private static final Path DOCUMENT = Path.of("../shared/DOC.md");
    private static final int CALLS = 512;
    private static final int ANON = 0;

    private FaceTest() {
    }

    public static void main(String[] args) throws Exception {
        face();
        ticksToTheLast();
        eventsToTheLast();
        workToTheLast();
        undoneToTheLast();
        Check.end("face");
    }

    private static void face() throws IOException, IllegalAccessException {
        Set<String> due = promised();
        Set<String> is = members();
        for (String line : due) {
            Check.due("there is: " + line, is.contains(line));
        }
        for (String line : is) {
            Check.due("the document has: " + line, due.contains(line));
        }
    }

    /** The lines of the document's face, without the names of arguments. */
    private static Set<String> promised() throws IOException {
        Set<String> lines = new TreeSet<>();
        boolean inFace = false;
        for (String line : Files.readAllLines(DOCUMENT)) {
            if (line.startsWith("## ")) {
                inFace = line.equals("## The public face");
            } else if (inFace && line.trim().startsWith("public ")) {
                lines.add(line.trim().replaceAll("[ ;{]+$", "").replaceAll("int \\w+(?=[,)])", "int"));
            }
        }
        return lines;
    }

    /** All members that others can use, and the class itself, written as the document writes them. */
    private static Set<String> members() throws IllegalAccessException {
        Class<?> all = GroupLimits.class;
        Set<String> lines = new TreeSet<>();
        lines.add(Modifier.toString(all.getModifiers()) + " class " + all.getName());
        for (Field field : all.getDeclaredFields()) {
            if (!Modifier.isPrivate(field.getModifiers())) {
                String name = field.getType() + " " + field.getName() + " = " + field.get(null);
                lines.add(Modifier.toString(field.getModifiers()) + " " + name);
            }
        }
        for (Constructor<?> made : all.getDeclaredConstructors()) {
            addCallable(lines, made, "");
        }
        for (Method method : all.getDeclaredMethods()) {
            addCallable(lines, method, method.getReturnType() + " ");
        }
        return lines;
    }

    private static void addCallable(Set<String> lines, Executable callable, String answer) {
        if (Modifier.isPrivate(callable.getModifiers())) {
            return;
        }
        StringJoiner types = new StringJoiner(", ", "(", ")");
        for (Class<?> type : callable.getParameterTypes()) {
            types.add(type.getName());
        }
        lines.add(Modifier.toString(callable.getModifiers()) + " " + answer + callable.getName() + types);
    }

    private static void ticksToTheLast() {
        GroupLimits x = new GroupLimits();
        int wrong = 0;
        for (int i = 1; i <= CALLS; i++) {
            wrong += x.tick(40) == 40 * i ? 0 : 1;
        }
        Check.due("512 calls of tick(40)", wrong, 0);
        Check.due("TICKS", x.count(2), 20480);
    }

    /** In each round another one comes, is charged a page above HIGH, and dies for a page above MAX. */
    private static void eventsToTheLast() {
        GroupLimits x = new GroupLimits();
        x.batch(1);
        x.group(0);
        x.process(1, -10);
        x.limit(1, 2, 9);
        x.limit(1, 3, 10);
        x.charge(0, ANON, 9);
        int rounds = (CALLS - 6 - 5) / 4;
        for (int i = 0; i < rounds; i++) {
            x.process(1, 0);
            x.charge(1, ANON, 1);
            x.charge(0, ANON, 1);
            x.uncharge(0, ANON, 1);
        }
        Check.due("LOW events", x.events(1, 0), 3 * rounds);
        Check.due("HIGH events", x.events(1, 1), 2 * rounds);
        Check.due("MAX events", x.events(1, 2), rounds);
        Check.due("KILL events", x.events(1, 3), rounds);
        Check.due("STALL is 20 at most", x.proc(0, 4), 20);
    }

    /** In each round one has 999 to do, which takes 11 TICKS, and another one stalls for one TICK. */
    private static void workToTheLast() {
        GroupLimits x = Check.flat(2);
        x.cap(99);
        x.trigger(1, 1, 1);
        x.swap(999);
        x.charge(1, ANON, 99);
        x.take(1, 99);
        int rounds = (CALLS - 9 - 5) / 4;
        for (int i = 0; i < rounds; i++) {
            x.work(0, 999);
            x.use(1, 1);
            x.take(1, 1);
            x.tick(40);
        }
        Check.due("DONE", x.proc(0, 8), 999 * rounds);
        Check.due("TICKS with a STALL", x.stalls(1, 0), rounds);
        Check.due("TICKS with TODO left", x.stalls(1, 2), 10 * rounds);
        Check.due("FIRED", x.fired(0, 0), rounds);
        Check.due("TICKS", x.count(2), 40 * rounds);
    }

    private static void undoneToTheLast() {
        GroupLimits x = new GroupLimits();
        int calls = CALLS - 3;
        for (int i = 1; i <= calls; i++) {
            x.cap(i % 100);
        }
        Check.due("ten can be UNDONE", x.count(6), 10);
        Check.due("these are", x.undo(10), 0);
        Check.due("CAP is of ten calls ahead", x.count(12), (calls - 10) % 100);
    }
}
