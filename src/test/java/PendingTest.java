import java.util.function.Consumer;

/** Terms, CALLS: which blocks are pending, and the commit ahead of a call. */
public final class PendingTest {
    private static final String[] CHANGE_NAMES = {"make", "link", "unlink", "write", "fill", "truncate"};

    public static void main(String[] args) {
        aBlockIsPendingOnceAndInItsPlace();
        aBlockIsPendingAnewBehindACommit();
        aBlockIsPendingAlsoWithWhatItWas();
        tenPendingBlocksAreNotMoreThanTen();
        elevenPendingBlocksAreCommittedAhead();
        fifteenPendingBlocksAreCommittedAhead();
        whatTheCallChangesIsNotInTheCommitAhead();
        noCommitAheadOfACallThatIsRefused();
        noCommitAheadOfACallThatChangesNothing();
        noCommitAheadOfAMount();
        oneCommitAloneInASync();
        Check.end();
    }

    /** Calls that change something, as the object of Disks.withPending takes them. */
    private static Consumer<LogFs> change(int i) {
        switch (i) {
            case 0:
                return x -> Check.is("make", x.make(3, Check.name("n"), false), 4);
            case 1:
                return x -> Check.yes("link", x.link(3, Check.name("n"), 2));
            case 2:
                return x -> Check.yes("unlink", x.unlink(0, Check.name("h")));
            case 3:
                return x -> Check.is("write", x.write(2, 0, 0L, 1), 1);
            case 4:
                return x -> Check.is("fill", x.fill(2, 1, 0, 1), 2);
            default:
                return x -> Check.yes("truncate", x.truncate(2));
        }
    }

    /** What each of these calls makes pending if nothing was; inodes 0 to 3 are in block 17, a new one in 18. */
    private static int[] changed(int i) {
        int[][] all = {{18, 25, 44, 17}, {17, 25, 44}, {26, 17}, {43}, {43, 17}, {25, 17}};
        return all[i];
    }

    /** "a block that is changed, and was not since the latest commit, is PENDING from then on, behind those". */
    private static void aBlockIsPendingOnceAndInItsPlace() {
        LogFs x = Disks.withPending(0);
        x.fill(1, 128, 1, 1);
        x.fill(1, 0, 1, 1);
        x.fill(1, 64, 1, 1);
        Check.pending("in the order of their first change", x, 29, 27, 28);
        x.fill(1, 64, 2, 1);
        x.fill(1, 0, 2, 64);
        x.write(1, 128, -1L, 8);
        Check.pending("changed again", x, 29, 27, 28);
        x.fill(2, 1, 1, 1);
        Check.pending("behind those that were", x, 29, 27, 28, 43, 17);
    }

    /** "and was not since the latest commit". */
    private static void aBlockIsPendingAnewBehindACommit() {
        LogFs x = Disks.withPending(2);
        Check.pending("ahead", x, 27, 28);
        x.sync();
        Check.pending("none", x);
        x.fill(1, 64, 2, 1);
        Check.pending("one of them", x, 28);
        x.fill(1, 0, 2, 1);
        Check.pending("both in another order", x, 28, 27);
    }

    /** "(each block when its first byte is written, also with what it was)". */
    private static void aBlockIsPendingAlsoWithWhatItWas() {
        LogFs x = Disks.withPending(0);
        Check.is("fill with what it was", x.fill(1, 0, 7, 64), 960);
        Check.pending("the block", x, 27);
        Check.is("write what it was", x.write(1, 64, 0x0707070707070707L, 8), 960);
        Check.pending("the block", x, 27, 28);
        LogFs y = Disks.withFile();
        Check.is("fill with 0, as a block that is taken", y.fill(1, 0, 0, 64), 64);
        Check.pending("map, block, inode", y, 25, 27, 17);
    }

    /** "there is a COMMIT if more than 10 are pending." */
    private static void tenPendingBlocksAreNotMoreThanTen() {
        for (int i = 0; i < CHANGE_NAMES.length; i++) {
            LogFs x = Disks.withPending(10);
            int commits = x.count(4);
            int writes = x.count(3);
            Check.is("ten are pending", x.count(0), 10);
            x.failAfter(0);
            change(i).accept(x);
            Check.is("no commit ahead of " + CHANGE_NAMES[i], x.count(4), commits);
            Check.is("no write ahead of " + CHANGE_NAMES[i], x.count(3), writes);
            int[] changed = changed(i);
            Check.is("pending behind " + CHANGE_NAMES[i], x.count(0), 10 + changed.length);
            for (int k = 0; k < changed.length; k++) {
                Check.is("behind the ten", x.count(18 + k), changed[k]);
            }
        }
    }

    /** "there is a COMMIT if more than 10 are pending." */
    private static void elevenPendingBlocksAreCommittedAhead() {
        for (int i = 0; i < CHANGE_NAMES.length; i++) {
            LogFs x = Disks.withPending(11);
            int commits = x.count(4);
            int writes = x.count(3);
            Check.is("eleven are pending", x.count(0), 11);
            change(i).accept(x);
            Check.is("a commit ahead of " + CHANGE_NAMES[i], x.count(4), commits + 1);
            Check.is("writes ahead of " + CHANGE_NAMES[i], x.count(3), writes + 24);
            Check.pending("what " + CHANGE_NAMES[i] + " changed", x, changed(i));
            Check.disk("what was pending is on the disk", x, 27, 0, 9);
            Check.disk("what was pending is on the disk", x, 38, 0, 9);
            LogFs y = Disks.withPending(11);
            y.failAfter(23);
            Consumer<LogFs> change = change(i);
            Check.powerFails(CHANGE_NAMES[i], () -> change.accept(y));
            Check.is("the power is off", y.count(5), 1);
        }
    }

    /** "there is a COMMIT if more than 10 are pending", as many as may be, too. */
    private static void fifteenPendingBlocksAreCommittedAhead() {
        LogFs x = Disks.withPending(10);
        x.fill(1, 959, 1, 41);
        Check.pending("fifteen", x, 27, 28, 29, 30, 31, 32, 33, 34, 35, 36, 42, 25, 44, 37, 17);
        int writes = x.count(3);
        x.fill(1, 0, 1, 1);
        Check.is("writes", x.count(3), writes + 32);
        Check.pending("the block", x, 27);
    }

    /** "Ahead of a call that will change something there is a COMMIT". */
    private static void whatTheCallChangesIsNotInTheCommitAhead() {
        LogFs x = Disks.withPending(11);
        x.fill(1, 0, 200, 64);
        Check.disk("as it was ahead of the call", x, 27, 0, 9, 7);
        Check.memory("as the call left it", x, 27, 0, 200, 200);
        x.mount();
        Check.is("as it was ahead of the call", x.read(1, 0), 9);
    }

    /** "Calls that answer false or NONE change nothing (but there may have been no commit for them)." */
    private static void noCommitAheadOfACallThatIsRefused() {
        LogFs x = Disks.withPending(11);
        int writes = x.count(3);
        x.failAfter(0);
        Check.is("make", x.make(0, Check.name("d"), false), LogFs.NONE);
        Check.no("link", x.link(0, Check.name("d"), 1));
        Check.no("unlink", x.unlink(0, Check.name("n")));
        Check.is("write", x.write(1, 961, 0L, 1), LogFs.NONE);
        Check.is("fill", x.fill(1, 960, 0, 41), LogFs.NONE);
        Check.no("truncate", x.truncate(3));
        Check.is("writes", x.count(3), writes);
        Check.is("pending", x.count(0), 11);
    }

    /** "Ahead of a call that will change something". */
    private static void noCommitAheadOfACallThatChangesNothing() {
        LogFs x = Disks.withPending(11);
        int writes = x.count(3);
        x.failAfter(0);
        Check.is("find", x.find(0, Check.name("f")), 1);
        Check.is("read", x.read(1, 0), 9);
        Check.is("look", x.look(1, 2), 960);
        Check.is("memory", x.memory(27, 0), 9);
        Check.is("disk", x.disk(27, 0), 7);
        Check.is("writes", x.count(3), writes);
        Check.is("pending", x.count(0), 11);
    }

    /** "(what is pending is gone, if it was on)". */
    private static void noCommitAheadOfAMount() {
        LogFs x = Disks.withPending(11);
        int writes = x.count(3);
        Check.is("mount", x.mount(), 0);
        Check.is("writes", x.count(3), writes);
        Check.is("read", x.read(1, 0), 7);
        Check.pending("none", x);
    }

    /** A sync changes no block in memory, so that there is no commit ahead of its own. */
    private static void oneCommitAloneInASync() {
        LogFs x = Disks.withPending(11);
        int commits = x.count(4);
        Check.is("sync", x.sync(), 24);
        Check.is("commits", x.count(4), commits + 1);
    }
}
