/** Promise 5. */
public final class WriteTest {
    private static final long BYTES = 0x0180ff7f41424344L;

    public static void main(String[] args) {
        theHighestFirst();
        changesInOrder();
        overTwoBlocks();
        theIndirectBlock();
        refusesWrongArguments();
        mostBytes();
        notAsManyFreeBlocks();
        commitsAhead();
        powerIsOff();
        Check.end();
    }

    private static void theHighestFirst() {
        int[] due = {0x01, 0x80, 0xff, 0x7f, 0x41, 0x42, 0x43, 0x44};
        for (int n = 1; n <= 8; n++) {
            LogFs x = Disks.withFile();
            Check.is("write " + n, x.write(1, 0, BYTES, n), n);
            for (int i = 0; i < n; i++) {
                Check.is("byte " + i, x.read(1, i), due[i]);
            }
            Check.is("size", x.look(1, 2), n);
            Check.memory("0 behind it", x, 27, n, 0);
        }
    }

    private static void changesInOrder() {
        LogFs x = Disks.withFile();
        Check.is("write", x.write(1, 0, BYTES, 8), 8);
        Check.pending("the first block", x, 25, 27, 17);
        x.sync();
        Check.is("write at the end", x.write(1, 8, BYTES, 2), 10);
        Check.pending("bytes, then the inode", x, 27, 17);
        x.sync();
        Check.is("write within", x.write(1, 3, 0x0900000000000000L, 1), 10);
        Check.pending("bytes alone", x, 27);
        Check.memory("the bytes", x, 27, 2, 0xff, 9, 0x41);
        x.sync();
        Check.is("write what was there", x.write(1, 0, BYTES, 1), 10);
        Check.pending("also with what it was", x, 27);
        x.sync();
        Check.is("write up to the size", x.write(1, 2, BYTES, 8), 10);
        Check.pending("the size is no more than it was", x, 27);
        x.sync();
        Check.is("write over the end", x.write(1, 9, BYTES, 3), 12);
        Check.pending("the size is more", x, 27, 17);
    }

    private static void overTwoBlocks() {
        LogFs x = Disks.withFile();
        x.fill(1, 0, 7, 60);
        x.sync();
        Check.is("write", x.write(1, 60, BYTES, 4), 64);
        Check.is("one block", x.look(1, 3), 1);
        Check.pending("no new block", x, 27, 17);
        x.sync();
        Check.is("write", x.write(1, 60, BYTES, 8), 68);
        Check.pending("the old block, then the new one", x, 27, 25, 28, 17);
        Check.memory("the old block", x, 27, 59, 7, 0x01, 0x80, 0xff, 0x7f);
        Check.memory("the new block", x, 28, 0, 0x41, 0x42, 0x43, 0x44, 0);
        Check.memory("the inode", x, 17, 16, 1, 1, 0, 68, 27, 28, 0);
        x.sync();
        Check.is("write over both", x.write(1, 63, BYTES, 2), 68);
        Check.pending("both blocks", x, 27, 28);
    }

    private static void theIndirectBlock() {
        LogFs x = Disks.withFile();
        Disks.addBlocks(x, 1, 10);
        x.sync();
        Check.is("write", x.write(1, 636, BYTES, 8), 644);
        Check.pending("with an indirect block", x, 36, 25, 37, 17, 38);
        Check.memory("the inode", x, 17, 18, 2, 132, 27, 28, 29, 30, 31, 32, 33, 34, 35, 36, 37, 0);
        Check.memory("the indirect block", x, 37, 0, 38, 0);
        x.fill(1, 644, 1, 60);
        x.sync();
        Check.is("size", x.look(1, 2), 704);
        Check.is("write", x.write(1, 704, BYTES, 1), 705);
        Check.pending("the indirect block is there", x, 25, 39, 37, 17);
        Check.memory("the indirect block", x, 37, 0, 38, 39, 0);
        Check.is("read", x.read(1, 704), 1);
    }

    private static void refusesWrongArguments() {
        LogFs x = Disks.withFile();
        x.make(0, Check.name("d"), true);
        x.make(2, Check.name("a"), true);
        x.write(1, 0, BYTES, 8);
        x.sync();
        int[] noFile = {-1, 0, 2, 3, 4, 31, 32, 36, 1000, Integer.MIN_VALUE, Integer.MAX_VALUE};
        for (int inode : noFile) {
            Check.is("write to " + inode, x.write(inode, 0, BYTES, 1), LogFs.NONE);
        }
        int[] noAt = {-1, 9, 64, 1000, Integer.MIN_VALUE, Integer.MAX_VALUE};
        for (int at : noAt) {
            Check.is("write at " + at, x.write(1, at, BYTES, 1), LogFs.NONE);
        }
        int[] noNumber = {-1, 0, 9, 64, Integer.MIN_VALUE, Integer.MAX_VALUE};
        for (int n : noNumber) {
            Check.is("write of " + n, x.write(1, 0, BYTES, n), LogFs.NONE);
        }
        Check.pending("nothing changed", x);
        Check.is("size", x.look(1, 2), 8);
    }

    private static void mostBytes() {
        LogFs x = Disks.withFile();
        Disks.addBlocks(x, 1, 15);
        x.fill(1, 960, 1, 33);
        x.sync();
        Check.is("1001 bytes", x.write(1, 993, BYTES, 8), LogFs.NONE);
        Check.pending("nothing changed", x);
        Check.is("1000 bytes", x.write(1, 993, BYTES, 7), 1000);
        Check.is("within", x.write(1, 992, BYTES, 8), 1000);
        Check.is("at the end", x.write(1, 1000, BYTES, 1), LogFs.NONE);
    }

    private static void notAsManyFreeBlocks() {
        LogFs x = Disks.withFreeBlocks(0);
        Check.is("a first block", x.write(8, 0, BYTES, 1), LogFs.NONE);
        Check.pending("nothing changed", x);
        Check.is("within", x.write(6, 639, BYTES, 1), 640);
        x.sync();
        Check.is("over the end of a block", x.write(6, 639, BYTES, 2), LogFs.NONE);
        Check.pending("nothing changed", x);
        LogFs y = Disks.withFreeBlocks(1);
        Check.is("two are needed", y.write(6, 640, BYTES, 1), LogFs.NONE);
        Check.is("two are needed over the end", y.write(6, 636, BYTES, 8), LogFs.NONE);
        Check.pending("nothing changed", y);
        Check.is("one is needed", y.write(8, 0, BYTES, 1), 1);
        LogFs z = Disks.withFreeBlocks(2);
        Check.is("two are there", z.write(6, 640, BYTES, 1), 641);
        Check.is("none is left", z.count(1), 0);
        Check.memory("the last two blocks", z, 126, 0, 127, 0);
    }

    private static void commitsAhead() {
        LogFs x = Disks.withFile();
        Disks.addBlocks(x, 1, 9);
        Check.is("a refused one", x.write(1, 577, BYTES, 1), LogFs.NONE);
        Check.is("no commit for it", x.count(4), 1);
        Check.is("write", x.write(1, 0, BYTES, 1), 576);
        Check.is("a commit ahead", x.count(4), 2);
        Check.pending("what came behind it", x, 27);
        LogFs y = Disks.withFile();
        Disks.addBlocks(y, 1, 9);
        y.failAfter(11);
        Check.powerFails("write", () -> y.write(1, 0, BYTES, 1));
        y.mount();
        Check.is("all is as it was", y.look(1, 2), 0);
    }

    private static void powerIsOff() {
        LogFs x = Disks.withoutPower();
        Check.off("write", () -> x.write(1, 0, BYTES, 1));
        Check.off("write to none", () -> x.write(-1, -1, BYTES, -1));
    }
}
