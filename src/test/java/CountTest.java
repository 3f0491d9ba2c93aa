/** Promise 16: each what, with its edges, and each cause of a NONE. */
public final class CountTest {
    public static void main(String[] args) {
        ordinary();
        freeBlocksFromAllToNone();
        freeInodesFromAllToNone();
        writesThatWereDone();
        commitsThatWereBegun();
        thePower();
        pendingBlocksInTheirOrder();
        asManyPendingBlocksAsMayBe();
        anotherWhat();
        noPendingBlock();
        withThePowerOff();
        upToTheLastCall();
        Check.end();
    }

    private static void counts(LogFs x, int... due) {
        for (int what = 0; what < due.length; what++) {
            Check.is("count(" + what + ")", x.count(what), due[what]);
        }
    }

    private static void ordinary() {
        LogFs x = new LogFs();
        x.make(0, Check.name("f"), false);
        counts(x, 3, 101, 30, 0, 0, 0, -1, -1, 17, 25, 26, -1);
        x.fill(1, 0, 1, 64);
        counts(x, 4, 100, 30, 0, 0, 0, -1, -1, 17, 25, 26, 27, -1);
        x.sync();
        counts(x, 0, 100, 30, 10, 1, 0, -1, -1, -1);
        x.fill(1, 0, 2, 64);
        x.make(0, Check.name("g"), true);
        counts(x, 3, 100, 29, 10, 1, 0, -1, -1, 27, 17, 26, -1);
        x.unlink(0, Check.name("f"));
        counts(x, 4, 101, 30, 10, 1, 0, -1, -1, 27, 17, 26, 25, -1);
        x.failAfter(3);
        Check.powerFails("sync", x::sync);
        counts(x, -1, -1, -1, 13, 2, 1, -1, -1, -1, -1, -1, -1, -1);
        x.mount();
        counts(x, 0, 100, 30, 13, 2, 0, -1, -1, -1);
    }

    /** "1: free blocks ... (of memory)". */
    private static void freeBlocksFromAllToNone() {
        Check.is("all", new LogFs().count(1), 102);
        for (int free = 0; free <= 2; free++) {
            Check.is("free blocks", Disks.withFreeBlocks(free).count(1), free);
        }
        LogFs x = Disks.withFile();
        x.fill(1, 0, 1, 1);
        Check.is("of memory", x.count(1), 100);
        x.mount();
        Check.is("of memory", x.count(1), 101);
    }

    /** "2: free inodes (of memory)". */
    private static void freeInodesFromAllToNone() {
        LogFs x = new LogFs();
        for (int inode = 1; inode <= 31; inode++) {
            Check.is("free inodes", x.count(2), 32 - inode);
            x.make(0, Check.name("n" + inode), inode % 2 == 0);
        }
        Check.is("none", x.count(2), 0);
        x.unlink(0, Check.name("n9"));
        Check.is("one", x.count(2), 1);
        x.mount();
        Check.yes("of memory", x.count(2) > 1);
    }

    /** "3: writes so far": not the one at which the power failed, but those of a mount. */
    private static void writesThatWereDone() {
        LogFs x = Disks.withPending(1);
        int writes = x.count(3);
        x.failAfter(2);
        Check.powerFails("sync", x::sync);
        Check.is("two of a commit", x.count(3), writes + 2);
        x.failAfter(0);
        Check.powerFails("mount", x::mount);
        Check.is("none of a mount", x.count(3), writes + 2);
        x.mount();
        Check.is("two of a mount", x.count(3), writes + 4);
        x.mount();
        Check.is("none without a log", x.count(3), writes + 4);
    }

    /** "4: commits that were begun so far with something pending". */
    private static void commitsThatWereBegun() {
        LogFs x = new LogFs();
        x.sync();
        Check.is("nothing was pending", x.count(4), 0);
        x.make(0, Check.name("f"), false);
        x.failAfter(0);
        Check.powerFails("sync", x::sync);
        Check.is("one that was begun without a write", x.count(4), 1);
        x.mount();
        Check.is("a mount is none", x.count(4), 1);
        x.make(0, Check.name("f"), false);
        x.sync();
        Check.is("one that was ended", x.count(4), 2);
        Disks.addBlocks(x, 1, 9);
        Check.is("none of them", x.count(4), 2);
        x.fill(1, 0, 1, 1);
        Check.is("one ahead of a call", x.count(4), 3);
    }

    /** "5: 1 if the power is off, else 0". */
    private static void thePower() {
        LogFs x = Disks.withPending(1);
        Check.is("on", x.count(5), 0);
        x.failAfter(0);
        Check.is("still on", x.count(5), 0);
        Check.powerFails("sync", x::sync);
        Check.is("off", x.count(5), 1);
        x.mount();
        Check.is("on again", x.count(5), 0);
    }

    /** "from 8 on pending block what - 8, in their order." */
    private static void pendingBlocksInTheirOrder() {
        LogFs x = Disks.withPending(0);
        int[] order = {5, 0, 9, 2};
        for (int block : order) {
            x.fill(1, 64 * block, 1, 1);
        }
        counts(x, 4, 84, 28, x.count(3), x.count(4), 0, -1, -1, 32, 27, 36, 29, -1, -1);
    }

    /** "from 8 on pending block what - 8": with fifteen the last what is 22. */
    private static void asManyPendingBlocksAsMayBe() {
        LogFs x = Disks.withPending(10);
        x.fill(1, 959, 1, 41);
        Check.is("count(0)", x.count(0), 15);
        Check.is("count(8)", x.count(8), 27);
        Check.is("count(21)", x.count(21), 37);
        Check.is("count(22)", x.count(22), 17);
        Check.is("count(23)", x.count(23), LogFs.NONE);
        Check.is("count(24)", x.count(24), LogFs.NONE);
    }

    /** "NONE for another what". */
    private static void anotherWhat() {
        LogFs x = Disks.withPending(3);
        int[] none = {-1, -2, -7, -8, 6, 7, Integer.MIN_VALUE, Integer.MIN_VALUE + 8};
        for (int what : none) {
            Check.is("count(" + what + ")", x.count(what), LogFs.NONE);
        }
    }

    /** "for what there is not". */
    private static void noPendingBlock() {
        LogFs x = Disks.withPending(3);
        Check.is("the last one", x.count(10), 29);
        int[] none = {11, 12, 22, 23, 1000, Integer.MAX_VALUE};
        for (int what : none) {
            Check.is("count(" + what + ")", x.count(what), LogFs.NONE);
        }
        x.sync();
        Check.is("count(8) with nothing pending", x.count(8), LogFs.NONE);
        Check.is("count(0) with nothing pending", x.count(0), 0);
    }

    /** "and of 0, 1, 2 and from 8 on if the power is off." */
    private static void withThePowerOff() {
        LogFs x = Disks.withPending(3);
        int writes = x.count(3);
        int commits = x.count(4);
        x.failAfter(0);
        Check.powerFails("sync", x::sync);
        counts(x, -1, -1, -1, writes, commits + 1, 1, -1, -1, -1, -1, -1, -1);
        Check.is("count(-1)", x.count(-1), LogFs.NONE);
        Check.is("count(100)", x.count(100), LogFs.NONE);
        x.mount();
        Check.is("count(0) with the power on again", x.count(0), 0);
    }

    /** "An object is used for at most 512 calls": the last two of them still tell all writes and commits. */
    private static void upToTheLastCall() {
        LogFs x = new LogFs();
        x.make(0, Check.name("f"), false);
        x.sync();
        for (int i = 0; i < 254; i++) {
            x.fill(1, 0, i, 1);
            x.sync();
        }
        Check.is("writes", x.count(3), 8 + 8 + 253 * 4);
        Check.is("commits", x.count(4), 255);
    }
}
