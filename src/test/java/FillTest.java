/** Promise 6: each cause of a NONE, and each exception, has a method of its own. */
public final class FillTest {
    private static final int[] NO_INODE = {-1, 32, 33, 36, 127, 128, 1000, Integer.MIN_VALUE, Integer.MAX_VALUE};

    public static void main(String[] args) {
        oneToSixtyFourBytes();
        allValues();
        overTwoBlocks();
        noSuchFile();
        theNumberIsNotOneToSixtyFour();
        theValueIsNotZeroTo255();
        atIsNotUpToTheSize();
        atIsTheSize();
        itWouldBeTooLong();
        noFreeBlock();
        noFreeBlockIsNeeded();
        oneFreeBlockForAnIndirectAndAnother();
        theTenthBlockTakesOneAlone();
        oneFreeBlockWithAnIndirectOne();
        tenPendingBlocksAndFiveMoreFillTheLog();
        commitsAhead();
        thePowerIsOff();
        thePowerFails();
        Check.end();
    }

    /** "WRITE of n bytes (1 .. 64)". */
    private static void oneToSixtyFourBytes() {
        LogFs x = Disks.withFile();
        Check.is("fill a byte", x.fill(1, 0, 255, 1), 1);
        Check.pending("as a write", x, 25, 27, 17);
        Check.is("read", x.read(1, 0), 255);
        Check.memory("no more than one", x, 27, 1, 0);
        x.sync();
        Check.is("fill a block", x.fill(1, 0, 128, 64), 64);
        Check.pending("bytes, inode", x, 27, 17);
        for (int i = 0; i < 64; i++) {
            Check.is("read " + i, x.read(1, i), 128);
        }
        Check.is("one block", x.look(1, 3), 1);
    }

    /** "that are all one value (0 .. 255)". */
    private static void allValues() {
        LogFs x = Disks.withFile();
        x.fill(1, 0, 1, 64);
        int[] values = {0, 1, 127, 128, 254, 255};
        for (int value : values) {
            Check.is("fill with " + value, x.fill(1, 31, value, 2), 64);
            Check.memory("the bytes", x, 27, 30, 1, value, value, 1);
            Check.is("read", x.read(1, 31), value);
        }
    }

    private static void overTwoBlocks() {
        LogFs x = Disks.withFile();
        x.fill(1, 0, 1, 1);
        x.sync();
        Check.is("fill", x.fill(1, 1, 2, 64), 65);
        Check.pending("the old block, then the new one", x, 27, 25, 28, 17);
        Check.memory("the old block", x, 27, 0, 1, 2, 2);
        Check.memory("the new block", x, 28, 0, 2, 0);
    }

    /** "else as that": "NONE if there is no such file". */
    private static void noSuchFile() {
        LogFs x = Disks.withFile();
        x.make(0, Check.name("d"), true);
        x.make(0, Check.name("g"), false);
        x.unlink(0, Check.name("g"));
        x.sync();
        for (int inode : NO_INODE) {
            Check.is("fill of " + inode, x.fill(inode, 0, 1, 1), LogFs.NONE);
        }
        Check.is("the root", x.fill(0, 0, 1, 1), LogFs.NONE);
        Check.is("a directory of size 0", x.fill(2, 0, 1, 1), LogFs.NONE);
        Check.is("a file that is gone", x.fill(3, 0, 1, 1), LogFs.NONE);
        Check.is("the last inode, which is free", x.fill(31, 0, 1, 1), LogFs.NONE);
        Check.pending("nothing changed", x);
    }

    /** "n bytes (1 .. 64)". */
    private static void theNumberIsNotOneToSixtyFour() {
        LogFs x = Disks.withFile();
        x.fill(1, 0, 9, 10);
        x.sync();
        int[] none = {-1, 0, 65, 66, 100, Integer.MIN_VALUE, Integer.MAX_VALUE};
        for (int n : none) {
            Check.is("fill of " + n + " bytes", x.fill(1, 0, 1, n), LogFs.NONE);
            Check.is("fill of " + n + " bytes at the end", x.fill(1, 10, 1, n), LogFs.NONE);
        }
        Check.pending("nothing changed", x);
        Check.is("fill of 64 bytes", x.fill(1, 10, 1, 64), 74);
    }

    /** "all one value (0 .. 255)". */
    private static void theValueIsNotZeroTo255() {
        LogFs x = Disks.withFile();
        x.fill(1, 0, 9, 10);
        x.sync();
        int[] none = {-1, -128, -255, -256, 256, 257, 511, Integer.MIN_VALUE, Integer.MAX_VALUE};
        for (int value : none) {
            Check.is("fill with " + value, x.fill(1, 0, value, 1), LogFs.NONE);
        }
        Check.pending("nothing changed", x);
    }

    /** "else as that": "at is not 0 .. its size". */
    private static void atIsNotUpToTheSize() {
        LogFs x = Disks.withFile();
        Check.is("a file of size 0", x.fill(1, 1, 1, 1), LogFs.NONE);
        x.fill(1, 0, 9, 10);
        x.sync();
        int[] none = {-1, -64, 11, 12, 64, 74, 1000, Integer.MIN_VALUE, Integer.MAX_VALUE - 63, Integer.MAX_VALUE};
        for (int at : none) {
            Check.is("fill at " + at, x.fill(1, at, 1, 64), LogFs.NONE);
            Check.is("fill at " + at, x.fill(1, at, 1, 1), LogFs.NONE);
        }
        Check.pending("nothing changed", x);
    }

    /** "else as that": "at is not 0 .. its size". */
    private static void atIsTheSize() {
        LogFs x = Disks.withFile();
        Check.is("a file of size 0", x.fill(1, 0, 1, 1), 1);
        Check.is("a file of size 1", x.fill(1, 1, 2, 63), 64);
        Check.is("a file of size 64", x.fill(1, 64, 3, 64), 128);
        Check.is("the first byte", x.fill(1, 0, 4, 1), 128);
    }

    /** "else as that": "it would be longer than 1000 bytes". */
    private static void itWouldBeTooLong() {
        LogFs x = Disks.withFile();
        Disks.addBlocks(x, 1, 15);
        x.sync();
        Check.is("1001 bytes", x.fill(1, 960, 1, 41), LogFs.NONE);
        Check.is("1024 bytes", x.fill(1, 960, 1, 64), LogFs.NONE);
        Check.pending("nothing changed", x);
        Check.is("1000 bytes", x.fill(1, 960, 1, 40), 1000);
        Check.is("16 blocks", x.look(1, 3), 16);
        Check.is("and an indirect one", x.count(1), 84);
        Check.is("at the end", x.fill(1, 1000, 1, 1), LogFs.NONE);
        Check.is("1001 bytes from within", x.fill(1, 937, 1, 64), LogFs.NONE);
        Check.is("1000 bytes from within", x.fill(1, 936, 1, 64), 1000);
    }

    /** "else as that": "or there are not as many free blocks." */
    private static void noFreeBlock() {
        LogFs x = Disks.withFreeBlocks(0);
        Check.is("a first block", x.fill(8, 0, 1, 64), LogFs.NONE);
        Check.is("over the end of a block", x.fill(6, 577, 1, 64), LogFs.NONE);
        Check.pending("nothing changed", x);
        LogFs y = Disks.withFreeBlocks(1);
        Check.is("one is left", y.fill(8, 0, 1, 64), 64);
        Check.is("none is left", y.fill(8, 1, 1, 64), LogFs.NONE);
    }

    private static void noFreeBlockIsNeeded() {
        LogFs x = Disks.withFreeBlocks(0);
        Check.is("within", x.fill(6, 576, 1, 64), 640);
        Check.is("over two blocks", x.fill(6, 500, 1, 64), 640);
        LogFs y = Disks.withFreeBlocks(1);
        y.fill(8, 0, 1, 1);
        Check.is("up to the end of its block", y.fill(8, 1, 1, 63), 64);
    }

    /** "else as that": the eleventh block takes two. */
    private static void oneFreeBlockForAnIndirectAndAnother() {
        LogFs x = Disks.withFreeBlocks(1);
        Check.is("two are needed", x.fill(6, 640, 1, 1), LogFs.NONE);
        Check.is("two are needed over the end", x.fill(6, 600, 1, 64), LogFs.NONE);
        Check.pending("nothing changed", x);
        LogFs y = Disks.withFreeBlocks(2);
        Check.is("two are left", y.fill(6, 600, 1, 64), 664);
        Check.is("none is left", y.count(1), 0);
    }

    private static void theTenthBlockTakesOneAlone() {
        LogFs x = Disks.withFreeBlocks(0);
        x.truncate(6);
        Disks.addBlocks(x, 6, 9);
        Check.is("one is left", x.count(1), 1);
        Check.is("the tenth block needs no indirect one", x.fill(6, 576, 1, 64), 640);
        Check.is("none is left", x.count(1), 0);
    }

    private static void oneFreeBlockWithAnIndirectOne() {
        LogFs x = Disks.withFreeBlocks(3);
        x.fill(6, 640, 1, 1);
        Check.is("one is left", x.count(1), 1);
        Check.is("the twelfth block", x.fill(6, 641, 1, 64), 705);
        Check.is("none is left", x.count(1), 0);
    }

    /** The log has 15 blocks: a call with ten pending ahead of it makes at most so many. */
    private static void tenPendingBlocksAndFiveMoreFillTheLog() {
        LogFs x = Disks.withFile();
        for (int i = 2; i <= 5; i++) {
            x.make(0, Check.name("n" + i), false);
        }
        Disks.addBlocks(x, 1, 10);
        Disks.addBlocks(x, 4, 10);
        x.sync();
        for (int i = 0; i < 10; i++) {
            x.fill(4, 64 * i, 1, 64);
        }
        Check.is("pending", x.count(0), 10);
        Check.is("fill", x.fill(1, 639, 3, 64), 703);
        Check.pending("fifteen", x, 37, 38, 39, 40, 41, 42, 43, 44, 45, 46, 36, 25, 47, 17, 48);
        x.failAfter(16);
        Check.powerFails("sync", x::sync);
        Check.disk("the head", x, 1, 0, 15, 37, 38, 39, 40, 41, 42, 43, 44, 45, 46, 36, 25, 47, 17, 48, 0, 0);
        Check.disk("the last block of the log", x, 16, 0, 3, 3);
        Check.disk("behind the log", x, 17, 18, 2, 128);
        Check.is("mount", x.mount(), 15);
        Check.is("size", x.look(1, 2), 703);
        Check.is("read", x.read(1, 702), 3);
    }

    private static void commitsAhead() {
        LogFs x = Disks.withFile();
        Disks.addBlocks(x, 1, 9);
        Check.is("a refused one", x.fill(1, 0, 256, 1), LogFs.NONE);
        Check.is("no commit for it", x.count(4), 1);
        Check.is("fill", x.fill(1, 0, 1, 1), 576);
        Check.is("a commit ahead", x.count(4), 2);
        Check.pending("what came behind it", x, 27);
    }

    /** "IllegalStateException if the power is off". */
    private static void thePowerIsOff() {
        LogFs x = Disks.withoutPower();
        Check.off("fill", () -> x.fill(1, 0, 1, 1));
        Check.off("fill of none", () -> x.fill(-1, -1, -1, -1));
    }

    /** "UnsupportedOperationException if it fails." */
    private static void thePowerFails() {
        for (int writes = 0; writes < 24; writes++) {
            LogFs x = Disks.withPending(11);
            x.failAfter(writes);
            Check.powerFails("fill", () -> x.fill(1, 960, 1, 40));
            Check.is("the power is off", x.count(5), 1);
            Check.is("mount", x.mount(), writes > 11 ? 11 : 0);
            Check.is("size", x.look(1, 2), 960);
        }
        LogFs y = Disks.withPending(11);
        y.failAfter(24);
        Check.is("the failure is yet to come", y.fill(1, 960, 1, 40), 1000);
    }
}
