/** Promise 5: each cause of a NONE, and each exception, has a method of its own. */
public final class WriteTest {
    private static final long BYTES = 0x0180ff7f41424344L;
    private static final int[] NO_INODE = {-1, 32, 33, 36, 127, 128, 1000, Integer.MIN_VALUE, Integer.MAX_VALUE};

    public static void main(String[] args) {
        theHighestFirst();
        changesInOrder();
        overTwoBlocks();
        theIndirectBlock();
        noSuchFile();
        aDirectory();
        theNumberIsNotOneToEight();
        atIsBelowZero();
        atIsTheSize();
        atIsMoreThanTheSize();
        itWouldBeTooLong();
        noFreeBlock();
        noFreeBlockIsNeeded();
        oneFreeBlockForAnIndirectAndAnother();
        oneFreeBlockWithAnIndirectOne();
        commitsAhead();
        thePowerIsOff();
        thePowerFails();
        Check.end();
    }

    /** "n bytes (1 .. 8, the highest of a long first) come to a file from byte at on: its size then". */
    private static void theHighestFirst() {
        int[] due = {0x01, 0x80, 0xff, 0x7f, 0x41, 0x42, 0x43, 0x44};
        for (int n = 1; n <= 8; n++) {
            LogFs x = Disks.withFile();
            Check.is("write " + n, x.write(1, 0, BYTES, n), n);
            for (int i = 0; i < n; i++) {
                Check.is("byte " + i, x.read(1, i), due[i]);
            }
            Check.is("size", x.look(1, 2), n);
            Check.memory("0 behind it", x, 27, n, 0);
        }
    }

    private static void changesInOrder() {
        LogFs x = Disks.withFile();
        Check.is("write", x.write(1, 0, BYTES, 8), 8);
        Check.pending("the first block", x, 25, 27, 17);
        x.sync();
        Check.is("write at the end", x.write(1, 8, BYTES, 2), 10);
        Check.pending("bytes, then the inode", x, 27, 17);
        x.sync();
        Check.is("write within", x.write(1, 3, 0x0900000000000000L, 1), 10);
        Check.pending("bytes alone", x, 27);
        Check.memory("the bytes", x, 27, 2, 0xff, 9, 0x41);
        x.sync();
        Check.is("write what was there", x.write(1, 0, BYTES, 1), 10);
        Check.pending("also with what it was", x, 27);
        x.sync();
        Check.is("write up to the size", x.write(1, 2, BYTES, 8), 10);
        Check.pending("the size is no more than it was", x, 27);
        x.sync();
        Check.is("write over the end", x.write(1, 9, BYTES, 3), 12);
        Check.pending("the size is more", x, 27, 17);
    }

    private static void overTwoBlocks() {
        LogFs x = Disks.withFile();
        x.fill(1, 0, 7, 60);
        x.sync();
        Check.is("write", x.write(1, 60, BYTES, 4), 64);
        Check.is("one block", x.look(1, 3), 1);
        Check.pending("no new block", x, 27, 17);
        x.sync();
        Check.is("write", x.write(1, 60, BYTES, 8), 68);
        Check.pending("the old block, then the new one", x, 27, 25, 28, 17);
        Check.memory("the old block", x, 27, 59, 7, 0x01, 0x80, 0xff, 0x7f);
        Check.memory("the new block", x, 28, 0, 0x41, 0x42, 0x43, 0x44, 0);
        Check.memory("the inode", x, 17, 16, 1, 1, 0, 68, 27, 28, 0);
        x.sync();
        Check.is("write over both", x.write(1, 63, BYTES, 2), 68);
        Check.pending("both blocks", x, 27, 28);
    }

    private static void theIndirectBlock() {
        LogFs x = Disks.withFile();
        Disks.addBlocks(x, 1, 10);
        x.sync();
        Check.is("write", x.write(1, 636, BYTES, 8), 644);
        Check.pending("with an indirect block", x, 36, 25, 37, 17, 38);
        Check.memory("the inode", x, 17, 18, 2, 132, 27, 28, 29, 30, 31, 32, 33, 34, 35, 36, 37, 0);
        Check.memory("the indirect block", x, 37, 0, 38, 0);
        x.fill(1, 644, 1, 60);
        x.sync();
        Check.is("size", x.look(1, 2), 704);
        Check.is("write", x.write(1, 704, BYTES, 1), 705);
        Check.pending("the indirect block is there", x, 25, 39, 37, 17);
        Check.memory("the indirect block", x, 37, 0, 38, 39, 0);
        Check.is("read", x.read(1, 704), 1);
    }

    /** "NONE if there is no such file". */
    private static void noSuchFile() {
        LogFs x = Disks.withFile();
        x.make(0, Check.name("g"), false);
        x.unlink(0, Check.name("g"));
        x.sync();
        for (int inode : NO_INODE) {
            Check.is("write to " + inode, x.write(inode, 0, BYTES, 1), LogFs.NONE);
        }
        Check.is("a file that is gone", x.write(2, 0, BYTES, 1), LogFs.NONE);
        Check.is("a free inode", x.write(3, 0, BYTES, 1), LogFs.NONE);
        Check.is("the last inode, which is free", x.write(31, 0, BYTES, 1), LogFs.NONE);
        Check.pending("nothing changed", x);
        for (int inode = 2; inode <= 31; inode++) {
            x.make(0, Check.name("n" + inode), false);
        }
        Check.is("the last inode", x.write(31, 0, BYTES, 1), 1);
        Check.is("the first one", x.write(1, 0, BYTES, 2), 2);
    }

    /** "NONE if there is no such file": a directory is none. */
    private static void aDirectory() {
        LogFs x = Disks.withFile();
        x.make(0, Check.name("d"), true);
        x.sync();
        Check.is("the root", x.write(0, 0, BYTES, 1), LogFs.NONE);
        Check.is("the end of the root", x.write(0, 16, BYTES, 1), LogFs.NONE);
        Check.is("a directory of size 0", x.write(2, 0, BYTES, 1), LogFs.NONE);
        Check.pending("nothing changed", x);
    }

    /** "n is not so". */
    private static void theNumberIsNotOneToEight() {
        LogFs x = Disks.withFile();
        x.write(1, 0, BYTES, 8);
        x.sync();
        int[] none = {-1, 0, 9, 10, 64, Integer.MIN_VALUE, Integer.MAX_VALUE};
        for (int n : none) {
            Check.is("write of " + n, x.write(1, 0, BYTES, n), LogFs.NONE);
            Check.is("write of " + n + " at the end", x.write(1, 8, BYTES, n), LogFs.NONE);
        }
        Check.pending("nothing changed", x);
        Check.is("write of 1", x.write(1, 0, BYTES, 1), 8);
        Check.is("write of 8", x.write(1, 8, BYTES, 8), 16);
    }

    /** "at is not 0 .. its size". */
    private static void atIsBelowZero() {
        LogFs x = Disks.withFile();
        int[] none = {-1, -8, -64, Integer.MIN_VALUE};
        for (int at : none) {
            Check.is("write at " + at, x.write(1, at, BYTES, 8), LogFs.NONE);
        }
        x.write(1, 0, BYTES, 8);
        x.sync();
        for (int at : none) {
            Check.is("write at " + at, x.write(1, at, BYTES, 8), LogFs.NONE);
        }
        Check.pending("nothing changed", x);
        Check.is("write at 0", x.write(1, 0, BYTES, 8), 8);
    }

    /** "at is not 0 .. its size". */
    private static void atIsTheSize() {
        LogFs x = Disks.withFile();
        Check.is("a file of size 0", x.write(1, 0, BYTES, 8), 8);
        Check.is("a file of size 8", x.write(1, 8, BYTES, 8), 16);
        x.fill(1, 16, 1, 48);
        Check.is("a file of a whole block", x.write(1, 64, BYTES, 8), 72);
        Check.is("read", x.read(1, 65), 0x80);
    }

    /** "at is not 0 .. its size". */
    private static void atIsMoreThanTheSize() {
        LogFs x = Disks.withFile();
        Check.is("a file of size 0", x.write(1, 1, BYTES, 1), LogFs.NONE);
        x.write(1, 0, BYTES, 8);
        x.sync();
        int[] none = {9, 10, 63, 64, 65, 999, 1000, 1001, Integer.MAX_VALUE - 7, Integer.MAX_VALUE};
        for (int at : none) {
            Check.is("write at " + at, x.write(1, at, BYTES, 8), LogFs.NONE);
        }
        Check.pending("nothing changed", x);
    }

    /** "it would be longer than 1000 bytes". */
    private static void itWouldBeTooLong() {
        LogFs x = Disks.withFile();
        Disks.grow(x, 1, 993);
        x.sync();
        Check.is("1001 bytes", x.write(1, 993, BYTES, 8), LogFs.NONE);
        Check.pending("nothing changed", x);
        Check.is("1000 bytes", x.write(1, 993, BYTES, 7), 1000);
        Check.is("within", x.write(1, 992, BYTES, 8), 1000);
        Check.is("over the end", x.write(1, 999, BYTES, 2), LogFs.NONE);
        Check.is("at the end", x.write(1, 1000, BYTES, 1), LogFs.NONE);
        Check.is("at the end", x.write(1, 1000, BYTES, 8), LogFs.NONE);
        Check.is("the last byte", x.write(1, 999, BYTES, 1), 1000);
    }

    /** "or there are not as many free blocks." */
    private static void noFreeBlock() {
        LogFs x = Disks.withFreeBlocks(0);
        Check.is("a first block", x.write(8, 0, BYTES, 1), LogFs.NONE);
        Check.is("over the end of a block", x.write(6, 639, BYTES, 2), LogFs.NONE);
        Check.is("behind a block", x.write(6, 640, BYTES, 1), LogFs.NONE);
        Check.pending("nothing changed", x);
        LogFs y = Disks.withFreeBlocks(1);
        Check.is("one is left", y.write(8, 0, BYTES, 1), 1);
        Check.is("none is left", y.count(1), 0);
    }

    /** "or there are not as many free blocks": where there is a block none is needed. */
    private static void noFreeBlockIsNeeded() {
        LogFs x = Disks.withFreeBlocks(0);
        Check.is("within", x.write(6, 639, BYTES, 1), 640);
        Check.is("over two blocks", x.write(6, 60, BYTES, 8), 640);
        LogFs y = Disks.withFreeBlocks(1);
        y.write(8, 0, BYTES, 8);
        Check.is("no block is left", y.count(1), 0);
        Check.is("up to the end of its block", y.fill(8, 8, 1, 48), 56);
        Check.is("up to the end of its block", y.write(8, 56, BYTES, 8), 64);
        Check.is("behind it", y.write(8, 64, BYTES, 1), LogFs.NONE);
    }

    /** "or there are not as many free blocks": the eleventh block takes two. */
    private static void oneFreeBlockForAnIndirectAndAnother() {
        LogFs x = Disks.withFreeBlocks(1);
        Check.is("two are needed", x.write(6, 640, BYTES, 1), LogFs.NONE);
        Check.is("two are needed over the end", x.write(6, 636, BYTES, 8), LogFs.NONE);
        Check.pending("nothing changed", x);
        LogFs y = Disks.withFreeBlocks(2);
        Check.is("two are there", y.write(6, 640, BYTES, 1), 641);
        Check.is("none is left", y.count(1), 0);
        Check.memory("the last two blocks", y, 126, 0, 127, 0);
    }

    /** "or there are not as many free blocks": the twelfth block takes but one. */
    private static void oneFreeBlockWithAnIndirectOne() {
        LogFs x = Disks.withFreeBlocks(3);
        x.fill(6, 640, 1, 64);
        Check.is("one is left", x.count(1), 1);
        Check.is("write", x.write(6, 704, BYTES, 1), 705);
        Check.is("none is left", x.count(1), 0);
        Check.is("within", x.write(6, 705, BYTES, 8), 713);
    }

    private static void commitsAhead() {
        LogFs x = Disks.withFile();
        Disks.addBlocks(x, 1, 9);
        Check.is("a refused one", x.write(1, 577, BYTES, 1), LogFs.NONE);
        Check.is("no commit for it", x.count(4), 1);
        Check.is("write", x.write(1, 0, BYTES, 1), 576);
        Check.is("a commit ahead", x.count(4), 2);
        Check.pending("what came behind it", x, 27);
    }

    /** "IllegalStateException if the power is off". */
    private static void thePowerIsOff() {
        LogFs x = Disks.withoutPower();
        Check.off("write", () -> x.write(1, 0, BYTES, 1));
        Check.off("write to none", () -> x.write(-1, -1, BYTES, -1));
    }

    /** "UnsupportedOperationException if it fails." */
    private static void thePowerFails() {
        for (int writes = 0; writes < 24; writes++) {
            LogFs x = Disks.withPending(11);
            x.failAfter(writes);
            Check.powerFails("write", () -> x.write(1, 960, BYTES, 1));
            Check.is("the power is off", x.count(5), 1);
            Check.is("mount", x.mount(), writes > 11 ? 11 : 0);
            Check.is("size", x.look(1, 2), 960);
        }
        LogFs y = Disks.withPending(11);
        y.failAfter(24);
        Check.is("the failure is yet to come", y.write(1, 960, BYTES, 1), 961);
    }
}
