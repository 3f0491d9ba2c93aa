/** Promise 2. */
public final class MakeTest {
    public static void main(String[] args) {
        changesInOrder();
        takesTheFirstFreeEntryAndInode();
        inodesOfSeveralBlocks();
        refusesWrongArguments();
        refusesWrongNames();
        noFreeInode();
        fullDirectory();
        noFreeBlock();
        takesAnIndirectBlock();
        commitsAhead();
        powerIsOff();
        Check.end();
    }

    private static void changesInOrder() {
        LogFs x = new LogFs();
        Check.is("make file", x.make(0, Check.name("ab"), false), 1);
        Check.pending("the first entry", x, 17, 25, 26);
        Check.memory("inode 1", x, 17, 16, 1, 1, 0, 0, 0, 0, 0, 0, 0, 0, 0, 0, 0, 0, 0, 0);
        Check.memory("the root", x, 17, 0, 2, 1, 0, 8, 26, 0);
        Check.memory("the entry", x, 26, 0, 2, 'a', 'b', 0, 0, 0, 0, 0, 0);
        Check.memory("the map", x, 25, 3, 7, 0);
        x.sync();
        Check.is("make directory", x.make(0, Check.name("1234567"), true), 2);
        Check.pending("the second entry", x, 17, 26);
        Check.memory("inode 2", x, 17, 32, 2, 1, 0, 0, 0);
        Check.memory("the second entry", x, 26, 8, 3, '1', '2', '3', '4', '5', '6', '7', 0);
        x.sync();
        Check.is("make in 2", x.make(2, Check.name("ab"), false), 3);
        Check.pending("an entry in 2", x, 17, 25, 27);
        Check.memory("2 is longer", x, 17, 34, 0, 8, 27);
    }

    private static void takesTheFirstFreeEntryAndInode() {
        LogFs x = new LogFs();
        for (int i = 1; i <= 5; i++) {
            Check.is("make " + i, x.make(0, Check.name("n" + i), false), i);
        }
        x.unlink(0, Check.name("n4"));
        x.unlink(0, Check.name("n2"));
        x.sync();
        Check.is("the least free inode", x.make(0, Check.name("new"), false), 2);
        Check.pending("in place of a free entry", x, 17, 26);
        Check.memory("the entry", x, 26, 8, 3, 'n', 'e', 'w', 0, 0, 0, 0);
        Check.is("size stays", x.look(0, 2), 40);
        Check.is("the next free inode", x.make(0, Check.name("new2"), false), 4);
        Check.memory("the next free entry", x, 26, 24, 5, 'n', 'e', 'w', '2');
        Check.is("behind the last one", x.make(0, Check.name("new3"), true), 6);
        Check.is("size", x.look(0, 2), 48);
    }

    private static void inodesOfSeveralBlocks() {
        LogFs x = new LogFs();
        for (int i = 1; i <= 7; i++) {
            x.make(0, Check.name("n" + i), false);
        }
        x.sync();
        Check.is("make", x.make(0, Check.name("n8"), true), 8);
        Check.pending("inode 8 is in block 19", x, 19, 26, 17);
        x.sync();
        Check.is("make in 8", x.make(8, Check.name("n9"), true), 9);
        Check.pending("a directory's inode's block behind its new block", x, 19, 25, 27);
        x.make(0, Check.name("a"), false);
        Check.pending("the root's second block", x, 19, 25, 27, 28, 17);
        Check.memory("the root", x, 17, 2, 0, 72, 26, 28, 0);
    }

    private static void refusesWrongArguments() {
        LogFs x = Disks.withFile();
        int[] none = {-1, 1, 2, 31, 32, 33, 36, 40, 1000, Integer.MIN_VALUE, Integer.MAX_VALUE};
        for (int directory : none) {
            Check.is("make in " + directory, x.make(directory, Check.name("a"), false), LogFs.NONE);
        }
        Check.is("a taken name", x.make(0, Check.name("f"), false), LogFs.NONE);
        Check.is("a taken name of a directory", x.make(0, Check.name("f"), true), LogFs.NONE);
        Check.pending("nothing changed", x);
        Check.is("a longer name", x.make(0, Check.name("ff"), false), 2);
        x.make(0, Check.name("d"), true);
        Check.is("taken elsewhere only", x.make(3, Check.name("f"), false), 4);
    }

    private static void refusesWrongNames() {
        LogFs x = new LogFs();
        long[] none = {
            0L, -1L, 1L, Check.name("12345678"), Check.name("a b"), Check.name(" "), Check.name("a\u007f"),
            Check.name("a\u0000b"), Check.name("\u0000a"), Check.name("a\u0080"), Check.name("\u00ff"),
            Check.name("abcdef\u0000g"), Check.name("a") | 1L, Check.name("1234567") | 1L, Check.name("a\u0020")
        };
        for (long name : none) {
            Check.is("make " + name, x.make(0, name, false), LogFs.NONE);
            Check.is("make directory " + name, x.make(0, name, true), LogFs.NONE);
        }
        Check.pending("nothing changed", x);
        Check.is("the least and the most character", x.make(0, Check.name("!~"), false), 1);
        Check.is("the least character", x.make(0, Check.name("!"), false), 2);
        Check.is("seven of the most", x.make(0, Check.name("~~~~~~~"), false), 3);
    }

    private static void noFreeInode() {
        LogFs x = new LogFs();
        for (int i = 1; i <= 31; i++) {
            Check.is("make " + i, x.make(0, Check.name("n" + i), i % 2 == 0), i);
        }
        Check.is("no inode is left", x.count(2), 0);
        x.sync();
        Check.is("make", x.make(0, Check.name("x"), false), LogFs.NONE);
        Check.pending("nothing changed", x);
        x.unlink(0, Check.name("n17"));
        Check.is("make again", x.make(0, Check.name("x"), true), 17);
    }

    private static void fullDirectory() {
        LogFs x = new LogFs();
        x.make(0, Check.name("f"), false);
        for (int i = 2; i <= 125; i++) {
            Check.yes("link " + i, x.link(0, Check.name("n" + i), 1));
        }
        Check.is("size", x.look(0, 2), 1000);
        Check.is("blocks", x.look(0, 3), 16);
        Check.is("entries", x.look(0, 4), 125);
        x.sync();
        Check.is("too long", x.make(0, Check.name("x"), false), LogFs.NONE);
        Check.pending("nothing changed", x);
        x.unlink(0, Check.name("n125"));
        Check.is("in place of the last one", x.make(0, Check.name("x"), false), 2);
        Check.is("size", x.look(0, 2), 1000);
    }

    private static void noFreeBlock() {
        LogFs x = Disks.withFreeBlocks(0);
        Check.is("the root is 64 bytes long", x.look(0, 2), 64);
        Check.is("make", x.make(0, Check.name("x"), false), LogFs.NONE);
        Check.pending("nothing changed", x);
        x.unlink(0, Check.name("f8"));
        Check.is("no block is needed", x.make(0, Check.name("d"), true), 8);
        Check.is("one is needed", x.make(8, Check.name("x"), false), LogFs.NONE);
        LogFs y = Disks.withFreeBlocks(1);
        Check.is("one is left", y.make(0, Check.name("x"), false), 9);
        Check.is("none is left", y.count(1), 0);
    }

    private static void takesAnIndirectBlock() {
        LogFs x = new LogFs();
        x.make(0, Check.name("f"), false);
        for (int i = 2; i <= 80; i++) {
            x.link(0, Check.name("n" + i), 1);
        }
        x.make(0, Check.name("x"), false);
        Check.is("blocks", x.look(0, 3), 11);
        Check.memory("the root", x, 17, 2, 2, 136, 26, 27, 28, 29, 30, 31, 32, 33, 34, 35, 36, 0);
        Check.memory("the indirect block", x, 36, 0, 37, 0);
        Check.memory("the entry", x, 37, 0, 3, 'x', 0);
        x.sync();
        for (int i = 82; i <= 88; i++) {
            x.link(0, Check.name("n" + i), 1);
        }
        x.sync();
        x.make(0, Check.name("y"), false);
        Check.pending("with an indirect block that is there", x, 17, 25, 38, 36);
    }

    private static void commitsAhead() {
        LogFs x = Disks.withFile();
        Disks.addBlocks(x, 1, 8);
        Check.is("pending", x.count(0), 10);
        Check.is("make", x.make(0, Check.name("a"), false), 2);
        Check.is("ten are not more than ten", x.count(4), 1);
        Check.is("pending", x.count(0), 11);
        Check.is("a refused one", x.make(0, Check.name("a"), false), LogFs.NONE);
        Check.is("no commit for it", x.count(4), 1);
        Check.is("make", x.make(0, Check.name("b"), false), 3);
        Check.is("a commit ahead", x.count(4), 2);
        Check.pending("what came behind it", x, 17, 26);
        LogFs y = Disks.withFile();
        Disks.addBlocks(y, 1, 9);
        y.failAfter(3);
        Check.powerFails("make", () -> y.make(0, Check.name("a"), false));
        Check.is("the power is off", y.count(5), 1);
    }

    private static void powerIsOff() {
        LogFs x = Disks.withoutPower();
        Check.off("make", () -> x.make(0, Check.name("a"), false));
        Check.off("make in none", () -> x.make(77, 0L, true));
    }
}
