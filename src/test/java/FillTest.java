/** Promise 6. */
public final class FillTest {
    public static void main(String[] args) {
        ordinary();
        overTwoBlocks();
        refusesWrongArguments();
        mostBytes();
        notAsManyFreeBlocks();
        theLogIsFull();
        commitsAhead();
        powerIsOff();
        Check.end();
    }

    private static void ordinary() {
        LogFs x = Disks.withFile();
        Check.is("fill", x.fill(1, 0, 255, 1), 1);
        Check.pending("as a write", x, 25, 27, 17);
        Check.is("read", x.read(1, 0), 255);
        x.sync();
        Check.is("fill with 0", x.fill(1, 0, 0, 1), 1);
        Check.pending("bytes alone", x, 27);
        Check.is("read", x.read(1, 0), 0);
        Check.is("fill a block", x.fill(1, 0, 128, 64), 64);
        for (int i = 0; i < 64; i++) {
            Check.is("read " + i, x.read(1, i), 128);
        }
        Check.is("one block", x.look(1, 3), 1);
    }

    private static void overTwoBlocks() {
        LogFs x = Disks.withFile();
        x.fill(1, 0, 1, 1);
        x.sync();
        Check.is("fill", x.fill(1, 1, 2, 64), 65);
        Check.pending("the old block, then the new one", x, 27, 25, 28, 17);
        Check.memory("the old block", x, 27, 0, 1, 2, 2);
        Check.memory("the new block", x, 28, 0, 2, 0);
    }

    private static void refusesWrongArguments() {
        LogFs x = Disks.withFile();
        x.make(0, Check.name("d"), true);
        x.fill(1, 0, 9, 10);
        x.sync();
        int[] noFile = {-1, 0, 2, 3, 31, 32, 36, Integer.MIN_VALUE, Integer.MAX_VALUE};
        for (int inode : noFile) {
            Check.is("fill of " + inode, x.fill(inode, 0, 1, 1), LogFs.NONE);
        }
        int[] noAt = {-1, 11, 1000, Integer.MIN_VALUE, Integer.MAX_VALUE};
        for (int at : noAt) {
            Check.is("fill at " + at, x.fill(1, at, 1, 1), LogFs.NONE);
        }
        int[] noValue = {-1, 256, -256, Integer.MIN_VALUE, Integer.MAX_VALUE};
        for (int value : noValue) {
            Check.is("fill with " + value, x.fill(1, 0, value, 1), LogFs.NONE);
        }
        int[] noNumber = {-1, 0, 65, Integer.MIN_VALUE, Integer.MAX_VALUE};
        for (int n : noNumber) {
            Check.is("fill of " + n + " bytes", x.fill(1, 0, 1, n), LogFs.NONE);
        }
        Check.pending("nothing changed", x);
    }

    private static void mostBytes() {
        LogFs x = Disks.withFile();
        Disks.addBlocks(x, 1, 15);
        x.sync();
        Check.is("1001 bytes", x.fill(1, 960, 1, 41), LogFs.NONE);
        Check.pending("nothing changed", x);
        Check.is("1000 bytes", x.fill(1, 960, 1, 40), 1000);
        Check.is("16 blocks", x.look(1, 3), 16);
        Check.is("and an indirect one", x.count(1), 84);
        Check.is("at the end", x.fill(1, 1000, 1, 1), LogFs.NONE);
        Check.is("1001 bytes from within", x.fill(1, 937, 1, 64), LogFs.NONE);
        Check.is("1000 bytes from within", x.fill(1, 936, 1, 64), 1000);
    }

    private static void notAsManyFreeBlocks() {
        LogFs x = Disks.withFreeBlocks(1);
        Check.is("two are needed", x.fill(6, 600, 1, 64), LogFs.NONE);
        Check.pending("nothing changed", x);
        Check.is("none is needed", x.fill(6, 576, 1, 64), 640);
        Check.is("one is needed", x.fill(8, 0, 1, 64), 64);
        Check.is("none is left", x.fill(8, 1, 1, 64), LogFs.NONE);
        LogFs y = Disks.withFreeBlocks(0);
        y.truncate(6);
        Disks.addBlocks(y, 6, 9);
        Check.is("one is left", y.count(1), 1);
        Check.is("the tenth block needs no indirect one", y.fill(6, 576, 1, 64), 640);
    }

    /** Ten that are pending and five more are as many as the log has blocks. */
    private static void theLogIsFull() {
        LogFs x = Disks.withFile();
        for (int i = 2; i <= 5; i++) {
            x.make(0, Check.name("n" + i), false);
        }
        Disks.addBlocks(x, 1, 10);
        Disks.addBlocks(x, 4, 10);
        x.sync();
        for (int i = 0; i < 10; i++) {
            x.fill(4, 64 * i, 1, 64);
        }
        Check.is("pending", x.count(0), 10);
        Check.is("fill", x.fill(1, 639, 3, 64), 703);
        Check.pending("fifteen", x, 37, 38, 39, 40, 41, 42, 43, 44, 45, 46, 36, 25, 47, 17, 48);
        x.failAfter(16);
        Check.powerFails("sync", x::sync);
        Check.disk("the head", x, 1, 0, 15, 37, 38, 39, 40, 41, 42, 43, 44, 45, 46, 36, 25, 47, 17, 48, 0, 0);
        Check.disk("the last block of the log", x, 16, 0, 3, 3);
        Check.disk("behind the log", x, 17, 18, 2, 128);
        Check.is("mount", x.mount(), 15);
        Check.is("size", x.look(1, 2), 703);
        Check.is("read", x.read(1, 702), 3);
    }

    private static void commitsAhead() {
        LogFs x = Disks.withFile();
        Disks.addBlocks(x, 1, 9);
        Check.is("a refused one", x.fill(1, 0, 256, 1), LogFs.NONE);
        Check.is("no commit for it", x.count(4), 1);
        Check.is("fill", x.fill(1, 0, 1, 1), 576);
        Check.is("a commit ahead", x.count(4), 2);
        Check.pending("what came behind it", x, 27);
        LogFs y = Disks.withFile();
        Disks.addBlocks(y, 1, 9);
        y.failAfter(0);
        Check.powerFails("fill", () -> y.fill(1, 0, 1, 1));
    }

    private static void powerIsOff() {
        LogFs x = Disks.withoutPower();
        Check.off("fill", () -> x.fill(1, 0, 1, 1));
        Check.off("fill of none", () -> x.fill(-1, -1, -1, -1));
    }
}
