/** Promise 7. */
public final class TruncateTest {
    public static void main(String[] args) {
        aShortFile();
        aLongFile();
        refusesWrongArguments();
        commitsAhead();
        powerIsOff();
        Check.end();
    }

    private static void aShortFile() {
        LogFs x = Disks.withFile();
        x.fill(1, 0, 9, 1);
        x.link(0, Check.name("g"), 1);
        x.sync();
        Check.yes("truncate", x.truncate(1));
        Check.pending("map, inode", x, 25, 17);
        Check.memory("the inode", x, 17, 16, 1, 2, 0, 0, 0, 0);
        Check.memory("its block stays as it was", x, 27, 0, 9);
        Check.is("free blocks", x.count(1), 101);
        Check.outside("read", () -> x.read(1, 0));
        Check.no("again", x.truncate(1));
        Check.is("fill", x.fill(1, 0, 3, 2), 2);
        Check.memory("the block is taken again", x, 27, 0, 3, 3, 0);
    }

    private static void aLongFile() {
        LogFs x = Disks.withFile();
        x.make(0, Check.name("g"), false);
        Disks.addBlocks(x, 1, 5);
        Disks.addBlocks(x, 2, 1);
        Disks.addBlocks(x, 1, 10);
        x.sync();
        Check.yes("truncate", x.truncate(1));
        Check.pending("map, inode", x, 25, 17);
        Check.memory("the inode", x, 17, 16, 1, 1, 0, 0, 0, 0, 0, 0, 0, 0, 0, 0, 0, 0, 0, 0);
        Check.is("free blocks", x.count(1), 100);
        Check.memory("the other file's block is used", x, 25, 3, 7, 1, 0, 0);
        Check.is("the other file", x.look(2, 2), 64);
        Check.is("blocks", x.look(1, 3), 0);
        Disks.addBlocks(x, 1, 11);
        Check.is("blocks again", x.look(1, 3), 11);
        Check.is("with an indirect one", x.count(1), 88);
    }

    private static void refusesWrongArguments() {
        LogFs x = Disks.withFile();
        x.make(0, Check.name("d"), true);
        x.make(2, Check.name("a"), false);
        x.sync();
        int[] none = {-1, 0, 1, 2, 3, 4, 31, 32, 36, 1000, Integer.MIN_VALUE, Integer.MAX_VALUE};
        for (int inode : none) {
            Check.no("truncate " + inode, x.truncate(inode));
        }
        Check.pending("nothing changed", x);
    }

    private static void commitsAhead() {
        LogFs x = Disks.withFile();
        Disks.addBlocks(x, 1, 9);
        Check.no("a refused one", x.truncate(0));
        Check.is("no commit for it", x.count(4), 1);
        Check.yes("truncate", x.truncate(1));
        Check.is("a commit ahead", x.count(4), 2);
        Check.pending("what came behind it", x, 25, 17);
        LogFs y = Disks.withFile();
        Disks.addBlocks(y, 1, 9);
        y.failAfter(1);
        Check.powerFails("truncate", () -> y.truncate(1));
        Check.is("the power is off", y.count(5), 1);
    }

    private static void powerIsOff() {
        LogFs x = Disks.withoutPower();
        Check.off("truncate", () -> x.truncate(1));
        Check.off("truncate none", () -> x.truncate(-1));
    }
}
