import java.util.Arrays;
import java.util.function.Supplier;

/** Terms, THE POWER and MOUNT, and which of several exceptions is thrown. */
public final class PowerTest {
    private static final long NAME = Check.name("f");

    public static void main(String[] args) {
        theWriteThatIsToBeDoneIsNot();
        callsThatChangeThrowUntilAMount();
        callsThatReadMemoryThrowUntilAMount();
        otherCallsDoNotThrow();
        whatIsThrownWithThePowerOffComesFirst();
        aFailureInACallLeavesThePowerOff();
        aFailureInAMountLeavesThePowerOff();
        noLogUpToTheHead();
        theWholeLogFromTheHeadOn();
        eachWriteOfAMount();
        memoryIsAsTheDiskBehindAMount();
        memoryIsAsTheDiskBehindAMountWithALog();
        allWorksAgainBehindAMount();
        Check.end();
    }

    /** Fifteen blocks are pending, and the power fails when so many writes were done. */
    private static LogFs broken(int writes) {
        LogFs x = Disks.withPending(10);
        x.fill(1, 959, 200, 41);
        x.failAfter(writes);
        Check.powerFails("sync with " + writes + " writes", x::sync);
        return x;
    }

    /** "then the write that is to be done is not, and the call throws". */
    private static void theWriteThatIsToBeDoneIsNot() {
        LogFs x = Disks.withFile();
        x.fill(1, 0, 1, 1);
        x.failAfter(0);
        Check.powerFails("sync", x::sync);
        Check.is("writes", x.count(3), 8);
        Check.disk("the log is as it was", x, 2, 0, 2, 1, 0, 8, 26);
        LogFs y = Disks.withFile();
        y.fill(1, 0, 1, 1);
        y.failAfter(7);
        Check.powerFails("sync", y::sync);
        Check.is("writes", y.count(3), 15);
        Check.disk("the head is as it was", y, 1, 0, 3, 25, 27, 17);
    }

    /** "every call that would change something throws until a MOUNT", also one that would be refused. */
    private static void callsThatChangeThrowUntilAMount() {
        LogFs x = Disks.withoutPower();
        for (int i = 0; i < 2; i++) {
            Check.off("make", () -> x.make(0, Check.name("a"), false));
            Check.off("make a directory", () -> x.make(0, Check.name("a"), true));
            Check.off("link", () -> x.link(0, Check.name("a"), 1));
            Check.off("unlink", () -> x.unlink(0, NAME));
            Check.off("write", () -> x.write(1, 0, 0L, 1));
            Check.off("fill", () -> x.fill(1, 0, 0, 1));
            Check.off("truncate", () -> x.truncate(1));
            Check.off("sync", x::sync);
        }
        Check.is("writes", x.count(3), 8);
        x.mount();
        Check.is("nothing was changed", x.look(1, 2), 0);
    }

    /** "or read memory, throws until a MOUNT". */
    private static void callsThatReadMemoryThrowUntilAMount() {
        LogFs x = Disks.withoutPower();
        Check.off("find", () -> x.find(0, NAME));
        Check.off("read", () -> x.read(0, 0));
        Check.off("look", () -> x.look(0, 0));
        Check.off("memory", () -> x.memory(0, 0));
        x.mount();
        Check.is("find", x.find(0, NAME), 1);
        Check.is("read", x.read(0, 0), 2);
        Check.is("look", x.look(0, 0), 2);
        Check.is("memory", x.memory(0, 0), 0);
    }

    private static void otherCallsDoNotThrow() {
        LogFs x = Disks.withoutPower();
        Check.is("disk", x.disk(26, 1), 'f');
        Check.is("count", x.count(3), 8);
        Check.is("count of what memory has", x.count(0), LogFs.NONE);
        Check.yes("failAfter", x.failAfter(100));
        Check.no("failAfter", x.failAfter(-1));
        Check.is("mount", x.mount(), 0);
    }

    /** "Of several exceptions the one told first is thrown." */
    private static void whatIsThrownWithThePowerOffComesFirst() {
        LogFs x = Disks.withoutPower();
        int[] wrong = {-1, 32, 128, 1000, Integer.MIN_VALUE, Integer.MAX_VALUE};
        for (int i : wrong) {
            Check.off("read of " + i, () -> x.read(i, 0));
            Check.off("read at " + i, () -> x.read(1, i));
            Check.off("look of " + i, () -> x.look(i, 0));
            Check.off("look at " + i, () -> x.look(0, i));
            Check.off("memory of " + i, () -> x.memory(i, 0));
            Check.off("memory at " + i, () -> x.memory(0, i));
        }
        Check.outside("disk has but one exception", () -> x.disk(128, 0));
        x.failAfter(0);
        Check.off("sync that would fail", x::sync);
    }

    /** "memory is gone". */
    private static void aFailureInACallLeavesThePowerOff() {
        LogFs x = Disks.withPending(11);
        x.failAfter(0);
        Check.powerFails("fill", () -> x.fill(1, 0, 1, 1));
        Check.is("the power is off", x.count(5), 1);
        Check.off("fill again", () -> x.fill(1, 0, 1, 1));
        Check.is("pending", x.count(0), LogFs.NONE);
        Check.is("mount", x.mount(), 0);
        Check.is("what was pending is gone", x.read(1, 0), 7);
        Check.pending("none", x);
    }

    /** "(writes, at which the power may fail, too)". */
    private static void aFailureInAMountLeavesThePowerOff() {
        LogFs x = broken(16);
        x.failAfter(3);
        Check.powerFails("mount", x::mount);
        Check.is("the power is off", x.count(5), 1);
        Check.off("look", () -> x.look(0, 0));
        Check.off("sync", x::sync);
        Check.is("pending", x.count(0), LogFs.NONE);
        x.failAfter(15);
        Check.powerFails("mount again", x::mount);
        Check.is("mount at last", x.mount(), 15);
        Check.is("size", x.look(1, 2), 1000);
    }

    /** "if the HEAD has n above 0": up to its write it has not. */
    private static void noLogUpToTheHead() {
        for (int writes = 0; writes <= 15; writes++) {
            LogFs x = broken(writes);
            int before = x.count(3);
            x.failAfter(0);
            Check.is("mount after " + writes + " writes", x.mount(), 0);
            Check.is("no write", x.count(3), before);
            Check.is("size", x.look(1, 2), 960);
            Check.is("read", x.read(1, 0), 7);
        }
    }

    /** "if the HEAD has n above 0 the log's blocks are written to the places that it tells". */
    private static void theWholeLogFromTheHeadOn() {
        for (int writes = 16; writes <= 31; writes++) {
            LogFs x = broken(writes);
            int before = x.count(3);
            Check.is("mount after " + writes + " writes", x.mount(), 15);
            Check.is("sixteen writes", x.count(3), before + 16);
            Check.is("size", x.look(1, 2), 1000);
            Check.is("read", x.read(1, 0), 9);
            Check.is("read", x.read(1, 999), 200);
            Check.is("mount again", x.mount(), 0);
            Check.is("no more writes", x.count(3), before + 16);
        }
    }

    /** "the log's blocks are written to the places that it tells, in order, then the HEAD with nothing". */
    private static void eachWriteOfAMount() {
        int used = 130;
        int[] before = State.disk(() -> broken(16), used, 0);
        int[] due = before.clone();
        for (int writes = 0; writes <= 15; writes++) {
            int done = writes;
            Supplier<LogFs> source = () -> brokenAgain(broken(16), done);
            State.same("a mount after " + writes + " writes", 0, due, State.disk(source, used, 0));
            if (writes < 15) {
                System.arraycopy(before, 64 * (2 + writes), due, 64 * before[65 + writes], 64);
            }
        }
        Arrays.fill(due, 64, 128, 0);
        State.same("a whole mount", 0, due, State.disk(() -> mounted(broken(16)), used, 0));
    }

    /** "Memory is as the disk then." */
    private static void memoryIsAsTheDiskBehindAMount() {
        Supplier<LogFs> source = () -> mounted(Disks.withPending(11));
        State.same("memory", 0, State.disk(source, 130, 0), State.memory(source, 130, 0));
    }

    /** "Memory is as the disk then." */
    private static void memoryIsAsTheDiskBehindAMountWithALog() {
        int[] writes = {15, 16, 25, 31};
        for (int n : writes) {
            Supplier<LogFs> source = () -> mounted(broken(n));
            State.same("memory", 0, State.disk(source, 130, 0), State.memory(source, 130, 0));
        }
    }

    private static void allWorksAgainBehindAMount() {
        LogFs x = broken(20);
        x.mount();
        Check.is("make", x.make(3, Check.name("n"), false), 4);
        Check.yes("link", x.link(3, Check.name("m"), 4));
        Check.yes("unlink", x.unlink(3, Check.name("n")));
        Check.is("write", x.write(4, 0, -1L, 8), 8);
        Check.is("fill", x.fill(4, 8, 1, 64), 72);
        Check.yes("truncate", x.truncate(1));
        Check.yes("it can be committed", x.sync() > 0);
    }

    private static LogFs brokenAgain(LogFs x, int writes) {
        x.failAfter(writes);
        Check.powerFails("mount with " + writes + " writes", x::mount);
        return x;
    }

    private static LogFs mounted(LogFs x) {
        x.mount();
        return x;
    }
}
