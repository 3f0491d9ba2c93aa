/** Promise 8; CommitTest has what a commit writes. */
public final class SyncTest {
    public static void main(String[] args) {
        howManyWrites();
        nothingIsPending();
        onceMore();
        theOrderOfWrites();
        moreThanTenPending();
        aCallThatWasRefusedIsNotCommitted();
        theLogInMemoryStays();
        thePowerIsOff();
        thePowerIsOffWithNothingPending();
        thePowerFails();
        Check.end();
    }

    /** "COMMIT: how many writes." */
    private static void howManyWrites() {
        for (int pending = 1; pending <= 11; pending++) {
            LogFs x = Disks.withPending(pending);
            int writes = x.count(3);
            Check.is("sync of " + pending, x.sync(), 2 * pending + 2);
            Check.is("writes", x.count(3), writes + 2 * pending + 2);
            Check.pending("none is pending", x);
        }
    }

    /** "COMMIT: if n blocks are pending". */
    private static void nothingIsPending() {
        LogFs x = new LogFs();
        Check.is("sync", x.sync(), 0);
        x.failAfter(0);
        Check.is("sync without a write", x.sync(), 0);
        Check.is("the power is on", x.count(5), 0);
        Check.is("no commit", x.count(4), 0);
        Check.is("no write", x.count(3), 0);
    }

    private static void onceMore() {
        LogFs x = new LogFs();
        x.make(0, Check.name("f"), false);
        Check.is("sync", x.sync(), 8);
        Check.is("commits", x.count(4), 1);
        Check.is("sync again", x.sync(), 0);
        Check.is("commits", x.count(4), 1);
        x.fill(1, 0, 5, 1);
        x.fill(1, 0, 6, 1);
        Check.is("sync", x.sync(), 8);
        Check.is("writes", x.count(3), 16);
        Check.is("commits", x.count(4), 2);
        Check.disk("the log anew", x, 2, 3, 15);
        Check.disk("the log anew", x, 3, 0, 6);
        Check.disk("in its place", x, 27, 0, 6);
    }

    /** Each number of writes that are done leaves the disk with just these. */
    private static void theOrderOfWrites() {
        for (int n = 0; n <= 8; n++) {
            LogFs x = new LogFs();
            x.make(0, Check.name("f"), false);
            x.failAfter(n);
            if (n < 8) {
                Check.powerFails("sync with " + n + " writes", x::sync);
            } else {
                Check.is("sync with all writes", x.sync(), 8);
            }
            String what = "after " + n + " writes";
            Check.is(what + ": writes", x.count(3), n);
            Check.is(what + ": commits", x.count(4), 1);
            Check.disk(what, x, 2, 16, n > 0 ? 1 : 0);
            Check.disk(what, x, 3, 3, n > 1 ? 7 : 0);
            Check.disk(what, x, 4, 1, n > 2 ? 'f' : 0);
            boolean hasHead = n > 3 && n < 8;
            Check.disk(what, x, 1, 0, hasHead ? 3 : 0, hasHead ? 17 : 0, hasHead ? 25 : 0, hasHead ? 26 : 0, 0);
            Check.disk(what, x, 17, 16, n > 4 ? 1 : 0);
            Check.disk(what, x, 25, 3, n > 5 ? 7 : 3);
            Check.disk(what, x, 26, 1, n > 6 ? 'f' : 0);
        }
    }

    private static void moreThanTenPending() {
        LogFs x = Disks.withFile();
        Disks.addBlocks(x, 1, 9);
        Check.is("pending", x.count(0), 11);
        Check.is("one commit alone", x.sync(), 24);
        Check.is("commits", x.count(4), 2);
    }

    /** "Calls that answer false or NONE change nothing". */
    private static void aCallThatWasRefusedIsNotCommitted() {
        LogFs x = Disks.withFile();
        x.make(0, Check.name("f"), true);
        x.write(1, 1, 0L, 1);
        x.truncate(1);
        Check.is("sync", x.sync(), 0);
    }

    /** A commit writes the log on the disk; no call changes it in memory. */
    private static void theLogInMemoryStays() {
        LogFs x = Disks.withFile();
        Check.disk("the log on the disk", x, 2, 0, 2, 1, 0, 8);
        Check.memory("the log in memory", x, 2, 0, 0, 0, 0, 0);
    }

    /** "IllegalStateException if the power is off". */
    private static void thePowerIsOff() {
        LogFs x = Disks.withoutPower();
        Check.off("sync", x::sync);
        Check.is("commits", x.count(4), 2);
    }

    /** "IllegalStateException if the power is off", also when there would be nothing to do. */
    private static void thePowerIsOffWithNothingPending() {
        LogFs x = Disks.withPending(1);
        x.failAfter(3);
        Check.powerFails("sync", x::sync);
        x.failAfter(0);
        Check.powerFails("mount", x::mount);
        Check.off("sync", x::sync);
        Check.off("sync again", x::sync);
    }

    /** "UnsupportedOperationException if it fails." */
    private static void thePowerFails() {
        for (int writes = 0; writes < 4; writes++) {
            LogFs x = Disks.withPending(1);
            int before = x.count(3);
            int commits = x.count(4);
            x.failAfter(writes);
            Check.powerFails("sync", x::sync);
            Check.is("writes", x.count(3), before + writes);
            Check.is("a commit was begun", x.count(4), commits + 1);
            Check.is("the power is off", x.count(5), 1);
        }
        LogFs y = Disks.withPending(1);
        y.failAfter(4);
        Check.is("all writes are done", y.sync(), 4);
        Check.is("the power is on", y.count(5), 0);
    }
}
