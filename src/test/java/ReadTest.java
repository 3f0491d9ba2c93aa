/** Promise 12: each cause of an exception has a method of its own. */
public final class ReadTest {
    private static final int[] NO_INODE = {-1, 32, 33, 36, 127, 128, 1000, Integer.MIN_VALUE, Integer.MAX_VALUE};

    public static void main(String[] args) {
        aFile();
        aDirectory();
        behindTheEndOfAFile();
        behindTheEndOfADirectory();
        belowZero();
        noSuchInode();
        aFreeInode();
        thePowerIsOff();
        Check.end();
    }

    /** "Byte at of a file or directory." */
    private static void aFile() {
        LogFs x = Disks.withFile();
        for (int i = 0; i < 15; i++) {
            x.fill(1, 64 * i, 200 + i, 64);
        }
        x.fill(1, 960, 255, 40);
        for (int i = 0; i < 15; i++) {
            Check.is("the first of block " + i, x.read(1, 64 * i), 200 + i);
            Check.is("the last of block " + i, x.read(1, 64 * i + 63), 200 + i);
        }
        Check.is("the last byte", x.read(1, 999), 255);
    }

    /** "Byte at of a file or directory." */
    private static void aDirectory() {
        LogFs x = Disks.withFile();
        Check.is("the inode and 1", x.read(0, 0), 2);
        Check.is("the name", x.read(0, 1), 'f');
        Check.is("the last byte", x.read(0, 7), 0);
        x.make(0, Check.name("1234567"), false);
        Check.is("the last byte", x.read(0, 15), '7');
        x.unlink(0, Check.name("1234567"));
        Check.is("a free entry", x.read(0, 8), 0);
        Check.is("a free entry", x.read(0, 15), 0);
    }

    /** "IndexOutOfBoundsException if there is no such one." */
    private static void behindTheEndOfAFile() {
        LogFs x = Disks.withFile();
        Check.outside("a file of size 0", () -> x.read(1, 0));
        x.fill(1, 0, 1, 1);
        Check.is("the only byte", x.read(1, 0), 1);
        Check.outside("within its block, behind the size", () -> x.read(1, 1));
        x.fill(1, 1, 1, 63);
        Check.is("the last byte", x.read(1, 63), 1);
        Check.outside("behind its block", () -> x.read(1, 64));
        Disks.addBlocks(x, 1, 14);
        x.fill(1, 960, 1, 40);
        Check.outside("behind 1000 bytes", () -> x.read(1, 1000));
        Check.outside("far behind", () -> x.read(1, 1024));
        Check.outside("far behind", () -> x.read(1, Integer.MAX_VALUE));
        x.truncate(1);
        Check.outside("a file that was truncated", () -> x.read(1, 0));
    }

    /** "IndexOutOfBoundsException if there is no such one." */
    private static void behindTheEndOfADirectory() {
        LogFs x = Disks.withFile();
        x.make(0, Check.name("d"), true);
        Check.outside("behind the root", () -> x.read(0, 16));
        Check.outside("a directory of size 0", () -> x.read(2, 0));
    }

    /** "IndexOutOfBoundsException if there is no such one." */
    private static void belowZero() {
        LogFs x = Disks.withFile();
        x.fill(1, 0, 1, 64);
        int[] none = {-1, -64, -1000, Integer.MIN_VALUE};
        for (int at : none) {
            Check.outside("read at " + at, () -> x.read(1, at));
            Check.outside("read of the root at " + at, () -> x.read(0, at));
        }
    }

    /** "IndexOutOfBoundsException if there is no such one." */
    private static void noSuchInode() {
        LogFs x = Disks.withFile();
        for (int inode : NO_INODE) {
            Check.outside("read of " + inode, () -> x.read(inode, 0));
        }
    }

    /** "IndexOutOfBoundsException if there is no such one": a free inode is no file or directory. */
    private static void aFreeInode() {
        LogFs x = Disks.withFile();
        Check.outside("one that never was", () -> x.read(2, 0));
        Check.outside("the last one", () -> x.read(31, 0));
        x.fill(1, 0, 1, 64);
        x.unlink(0, Check.name("f"));
        Check.outside("one that is gone", () -> x.read(1, 0));
    }

    /** "IllegalStateException if the power is off". */
    private static void thePowerIsOff() {
        LogFs x = Disks.withoutPower();
        Check.off("read", () -> x.read(0, 0));
        Check.off("read of none", () -> x.read(-1, -1));
    }
}
