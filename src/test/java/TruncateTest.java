/** Promise 7: each cause of a false, and each exception, has a method of its own. */
public final class TruncateTest {
    private static final int[] NO_INODE = {-1, 32, 33, 36, 127, 128, 1000, Integer.MIN_VALUE, Integer.MAX_VALUE};

    public static void main(String[] args) {
        aShortFile();
        aLongFile();
        anotherFilesBlocksStay();
        noSuchFile();
        aDirectory();
        aFileOfSizeZero();
        commitsAhead();
        thePowerIsOff();
        thePowerFails();
        Check.end();
    }

    /** "TRUNCATE of a file that has a size above 0: true". */
    private static void aShortFile() {
        LogFs x = Disks.withFile();
        x.fill(1, 0, 9, 1);
        x.link(0, Check.name("g"), 1);
        x.sync();
        Check.yes("truncate", x.truncate(1));
        Check.pending("map, inode", x, 25, 17);
        Check.memory("the inode", x, 17, 16, 1, 2, 0, 0, 0, 0);
        Check.memory("its block stays as it was", x, 27, 0, 9);
        Check.is("free blocks", x.count(1), 101);
        Check.outside("read", () -> x.read(1, 0));
        Check.is("fill", x.fill(1, 0, 3, 2), 2);
        Check.memory("the block is taken again", x, 27, 0, 3, 3, 0);
    }

    private static void aLongFile() {
        LogFs x = Disks.withFile();
        Disks.grow(x, 1, 1000);
        x.sync();
        Check.yes("truncate", x.truncate(1));
        Check.pending("map, inode", x, 25, 17);
        Check.memory("the inode", x, 17, 16, 1, 1, 0, 0, 0, 0, 0, 0, 0, 0, 0, 0, 0, 0, 0, 0);
        Check.is("free blocks", x.count(1), 101);
        Check.is("size", x.look(1, 2), 0);
        Check.is("blocks", x.look(1, 3), 0);
        Check.is("find", x.find(0, Check.name("f")), 1);
        Disks.addBlocks(x, 1, 11);
        Check.is("blocks again", x.look(1, 3), 11);
        Check.is("with an indirect one", x.count(1), 89);
    }

    private static void anotherFilesBlocksStay() {
        LogFs x = Disks.withFile();
        x.make(0, Check.name("g"), false);
        Disks.addBlocks(x, 1, 5);
        Disks.addBlocks(x, 2, 1);
        Disks.addBlocks(x, 1, 10);
        Check.yes("truncate", x.truncate(1));
        Check.is("free blocks", x.count(1), 100);
        Check.memory("the other file's block is used", x, 25, 3, 7, 1, 0, 0);
        Check.is("the other file", x.look(2, 2), 64);
        Check.is("the other file", x.read(2, 63), 7);
    }

    /** "false if it is none such." */
    private static void noSuchFile() {
        LogFs x = Disks.withFile();
        x.fill(1, 0, 1, 1);
        x.make(0, Check.name("g"), false);
        x.fill(2, 0, 1, 1);
        x.unlink(0, Check.name("g"));
        x.sync();
        for (int inode : NO_INODE) {
            Check.no("truncate " + inode, x.truncate(inode));
        }
        Check.no("a file that is gone", x.truncate(2));
        Check.no("a free inode", x.truncate(3));
        Check.no("the last inode, which is free", x.truncate(31));
        Check.pending("nothing changed", x);
    }

    /** "false if it is none such": a directory with a size is none. */
    private static void aDirectory() {
        LogFs x = Disks.withFile();
        x.make(0, Check.name("d"), true);
        x.make(2, Check.name("a"), false);
        x.sync();
        Check.no("the root", x.truncate(0));
        Check.no("a directory with an entry", x.truncate(2));
        x.unlink(2, Check.name("a"));
        x.sync();
        Check.no("a directory without an entry", x.truncate(2));
        Check.pending("nothing changed", x);
        Check.is("size", x.look(2, 2), 8);
    }

    /** "a file that has a size above 0". */
    private static void aFileOfSizeZero() {
        LogFs x = Disks.withFile();
        Check.no("a new one", x.truncate(1));
        Check.pending("nothing changed", x);
        x.fill(1, 0, 1, 1);
        Check.yes("a size of 1", x.truncate(1));
        x.sync();
        Check.no("again", x.truncate(1));
        Check.pending("nothing changed", x);
    }

    private static void commitsAhead() {
        LogFs x = Disks.withFile();
        Disks.addBlocks(x, 1, 9);
        Check.no("a refused one", x.truncate(0));
        Check.is("no commit for it", x.count(4), 1);
        Check.yes("truncate", x.truncate(1));
        Check.is("a commit ahead", x.count(4), 2);
        Check.pending("what came behind it", x, 25, 17);
    }

    /** "IllegalStateException if the power is off". */
    private static void thePowerIsOff() {
        LogFs x = Disks.withoutPower();
        Check.off("truncate", () -> x.truncate(1));
        Check.off("truncate none", () -> x.truncate(-1));
    }

    /** "UnsupportedOperationException if it fails." */
    private static void thePowerFails() {
        for (int writes = 0; writes < 24; writes++) {
            LogFs x = Disks.withPending(11);
            x.failAfter(writes);
            Check.powerFails("truncate", () -> x.truncate(1));
            Check.is("the power is off", x.count(5), 1);
            Check.is("mount", x.mount(), writes > 11 ? 11 : 0);
            Check.is("size", x.look(1, 2), 960);
        }
        LogFs y = Disks.withPending(11);
        y.failAfter(24);
        Check.yes("the failure is yet to come", y.truncate(1));
    }
}
