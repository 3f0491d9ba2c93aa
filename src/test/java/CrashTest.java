import java.util.ArrayList;
import java.util.List;
import java.util.function.Consumer;

/** A power failure at any write leaves the changes whole or not at all. */
public final class CrashTest {
    private static final int FIRST_BLOCK = 17;

    private static final List<Consumer<LogFs>> STEPS = steps();

    /** What is pending, and how many writes were done, ahead of each step when the power does not fail. */
    private static final int[] PENDING = new int[STEPS.size()];
    private static final int[] WRITES = new int[STEPS.size()];
    private static final int[][] STATES = new int[STEPS.size()][];

    public static void main(String[] args) {
        LogFs whole = new LogFs();
        for (int step = 0; step < STEPS.size(); step++) {
            int ahead = step;
            PENDING[step] = whole.count(0);
            WRITES[step] = whole.count(3);
            STATES[step] = State.memory(() -> after(ahead), STEPS.size(), FIRST_BLOCK);
            STEPS.get(step).accept(whole);
        }
        Check.is("all is committed", whole.count(0), 0);
        int writes = whole.count(3);
        Check.yes("there are many writes", writes > 100);
        for (int n = 0; n < writes; n++) {
            failAt(n);
        }
        LogFs last = new LogFs();
        last.failAfter(writes);
        STEPS.forEach(step -> step.accept(last));
        Check.is("no failure ahead of the last write", last.count(5), 0);
        Check.end();
    }

    /** The step that does a write; all writes of a step are of one commit. */
    private static int stepOfWrite(int n) {
        int step = STEPS.size() - 1;
        while (WRITES[step] > n) {
            step--;
        }
        return step;
    }

    /** What a commit writes is the state ahead of the step that it is in. */
    private static void failAt(int n) {
        int step = stepOfWrite(n);
        int pending = PENDING[step];
        boolean isWhole = n - WRITES[step] > pending;
        int[] committed = WRITES[step] == 0 ? STATES[0] : STATES[stepOfWrite(WRITES[step] - 1)];
        int[] due = isWhole ? STATES[step] : committed;
        String what = "power fails after " + n + " writes";
        LogFs x = broken(n, step);
        Check.is(what + ": writes", x.count(3), n);
        Check.is(what + ": mount", x.mount(), isWhole ? pending : 0);
        Check.is(what + ": writes of the mount", x.count(3), n + (isWhole ? pending + 1 : 0));
        State.same(what, FIRST_BLOCK, due,
                State.memory(() -> mounted(broken(n, step)), STEPS.size() + 3, FIRST_BLOCK));
        if (!isWhole) {
            return;
        }
        for (int m = 0; m <= pending; m++) {
            int done = m;
            State.same(what + " and after " + m + " of the mount", FIRST_BLOCK, due,
                    State.memory(() -> mounted(brokenAtMount(broken(n, step), done)), STEPS.size() + 5, FIRST_BLOCK));
        }
    }

    private static LogFs after(int steps) {
        LogFs x = new LogFs();
        for (int i = 0; i < steps; i++) {
            STEPS.get(i).accept(x);
        }
        return x;
    }

    private static LogFs broken(int n, int step) {
        LogFs x = new LogFs();
        x.failAfter(n);
        for (int i = 0; i < step; i++) {
            STEPS.get(i).accept(x);
        }
        Check.powerFails("step " + step + " with a failure after " + n + " writes", () -> STEPS.get(step).accept(x));
        return x;
    }

    private static LogFs brokenAtMount(LogFs x, int m) {
        x.failAfter(m);
        Check.powerFails("mount with a failure after " + m + " writes", x::mount);
        return x;
    }

    private static LogFs mounted(LogFs x) {
        x.mount();
        return x;
    }

    private static List<Consumer<LogFs>> steps() {
        List<Consumer<LogFs>> steps = new ArrayList<>();
        steps.add(x -> x.make(0, Check.name("f"), false));
        steps.add(x -> x.make(0, Check.name("d"), true));
        steps.add(x -> x.write(1, 0, 0x0102030405060708L, 8));
        steps.add(LogFs::sync);
        steps.add(x -> x.link(2, Check.name("g"), 1));
        steps.add(x -> x.unlink(0, Check.name("f")));
        steps.add(LogFs::sync);
        for (int i = 0; i < 15; i++) {
            int at = 8 + 60 * i;
            steps.add(x -> x.fill(1, at, at % 251, 60));
        }
        steps.add(x -> x.make(2, Check.name("h"), false));
        steps.add(x -> x.fill(3, 0, 77, 64));
        steps.add(x -> x.truncate(1));
        for (int i = 0; i < 9; i++) {
            long name = Check.name("n" + i);
            boolean isDirectory = i % 2 == 0;
            steps.add(x -> x.make(0, name, isDirectory));
        }
        steps.add(LogFs::sync);
        for (int i = 0; i < 9; i++) {
            int at = 64 * i;
            steps.add(x -> x.fill(1, at, 9, 64));
        }
        steps.add(x -> x.unlink(2, Check.name("h")));
        steps.add(x -> x.unlink(2, Check.name("g")));
        steps.add(x -> x.unlink(0, Check.name("d")));
        steps.add(LogFs::sync);
        return steps;
    }
}
