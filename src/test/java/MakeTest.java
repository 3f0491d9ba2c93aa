/** Promise 2: each cause of a NONE, and each exception, has a method of its own. */
public final class MakeTest {
    private static final int[] NO_INODE = {-1, 32, 33, 36, 127, 128, 1000, Integer.MIN_VALUE, Integer.MAX_VALUE};

    public static void main(String[] args) {
        ordinary();
        theLeastFreeInodeIsTaken();
        noSuchDirectory();
        noSuchName();
        theNameIsTaken();
        theNameIsTakenElsewhere();
        theDirectoryWouldBeTooLong();
        noFreeInode();
        noFreeBlock();
        noFreeBlockIsNeeded();
        oneFreeBlockForAnIndirectAndAnother();
        oneFreeBlockWithAnIndirectOne();
        commitsAhead();
        thePowerIsOff();
        thePowerFails();
        Check.end();
    }

    /** "MAKE: a file or directory with an entry in a directory: its inode". */
    private static void ordinary() {
        LogFs x = new LogFs();
        Check.is("make file", x.make(0, Check.name("ab"), false), 1);
        Check.pending("the first entry", x, 17, 25, 26);
        Check.memory("inode 1", x, 17, 16, 1, 1, 0, 0, 0, 0, 0, 0, 0, 0, 0, 0, 0, 0, 0, 0);
        Check.memory("the root", x, 17, 0, 2, 1, 0, 8, 26, 0);
        Check.memory("the entry", x, 26, 0, 2, 'a', 'b', 0, 0, 0, 0, 0, 0);
        Check.memory("the map", x, 25, 3, 7, 0);
        x.sync();
        Check.is("make directory", x.make(0, Check.name("1234567"), true), 2);
        Check.pending("the second entry", x, 17, 26);
        Check.memory("inode 2", x, 17, 32, 2, 1, 0, 0, 0);
        Check.memory("the second entry", x, 26, 8, 3, '1', '2', '3', '4', '5', '6', '7', 0);
        x.sync();
        Check.is("make in 2", x.make(2, Check.name("ab"), false), 3);
        Check.pending("an entry in 2", x, 17, 25, 27);
        Check.memory("2 is longer", x, 17, 34, 0, 8, 27);
        Check.is("the root is not", x.look(0, 2), 16);
        Check.is("links of 2", x.look(2, 1), 1);
    }

    private static void theLeastFreeInodeIsTaken() {
        LogFs x = new LogFs();
        for (int i = 1; i <= 5; i++) {
            Check.is("make " + i, x.make(0, Check.name("n" + i), false), i);
        }
        x.unlink(0, Check.name("n4"));
        x.unlink(0, Check.name("n2"));
        Check.is("the least free inode", x.make(0, Check.name("new"), false), 2);
        Check.is("the next free inode", x.make(0, Check.name("new2"), false), 4);
        Check.is("behind the last one", x.make(0, Check.name("new3"), true), 6);
    }

    /** "NONE if there is no such directory". */
    private static void noSuchDirectory() {
        LogFs x = Disks.withFile();
        for (int directory : NO_INODE) {
            Check.is("make in " + directory, x.make(directory, Check.name("a"), false), LogFs.NONE);
        }
        Check.is("make in a file", x.make(1, Check.name("a"), false), LogFs.NONE);
        Check.is("make in a free inode", x.make(2, Check.name("a"), false), LogFs.NONE);
        Check.is("make in the last inode", x.make(31, Check.name("a"), true), LogFs.NONE);
        Check.pending("nothing changed", x);
        x.make(0, Check.name("d"), true);
        x.unlink(0, Check.name("d"));
        Check.is("make in a directory that is gone", x.make(2, Check.name("a"), false), LogFs.NONE);
        for (int inode = 2; inode <= 31; inode++) {
            x.make(0, Check.name("d" + inode), true);
        }
        x.unlink(0, Check.name("d7"));
        Check.is("make in the last directory", x.make(31, Check.name("a"), false), 7);
    }

    /** "or name". */
    private static void noSuchName() {
        LogFs x = new LogFs();
        long[] none = {0L, 1L, -1L, Check.name("12345678"), Check.name("a b"), Check.name("a\u007f"),
            Check.name("a\u0000b"), Check.name("\u0000a")};
        for (long name : none) {
            Check.is("make " + name, x.make(0, name, false), LogFs.NONE);
            Check.is("make directory " + name, x.make(0, name, true), LogFs.NONE);
        }
        Check.pending("nothing changed", x);
        Check.is("the least and the most character", x.make(0, Check.name("!~"), false), 1);
    }

    /** "the name is taken there". */
    private static void theNameIsTaken() {
        LogFs x = Disks.withFile();
        x.make(0, Check.name("d"), true);
        x.sync();
        Check.is("a file's name", x.make(0, Check.name("f"), false), LogFs.NONE);
        Check.is("a file's name for a directory", x.make(0, Check.name("f"), true), LogFs.NONE);
        Check.is("a directory's name", x.make(0, Check.name("d"), true), LogFs.NONE);
        Check.is("a directory's name for a file", x.make(0, Check.name("d"), false), LogFs.NONE);
        Check.pending("nothing changed", x);
        x.unlink(0, Check.name("f"));
        Check.is("a name that is gone", x.make(0, Check.name("f"), false), 1);
    }

    /** "the name is taken there". */
    private static void theNameIsTakenElsewhere() {
        LogFs x = Disks.withFile();
        x.make(0, Check.name("d"), true);
        Check.is("taken in the root alone", x.make(2, Check.name("f"), false), 3);
        Check.is("its own directory's name", x.make(2, Check.name("d"), true), 4);
        Check.is("taken in d too", x.make(2, Check.name("f"), false), LogFs.NONE);
        Check.is("a longer name", x.make(0, Check.name("ff"), false), 5);
    }

    /** "the directory would be longer than 1000 bytes". */
    private static void theDirectoryWouldBeTooLong() {
        LogFs x = Disks.withFile();
        Disks.addEntries(x, 0, 1, 123);
        Check.is("the entry to 1000 bytes", x.make(0, Check.name("last"), false), 2);
        Check.is("size", x.look(0, 2), 1000);
        Check.is("blocks", x.look(0, 3), 16);
        x.sync();
        Check.is("too long", x.make(0, Check.name("x"), false), LogFs.NONE);
        Check.is("too long", x.make(0, Check.name("x"), true), LogFs.NONE);
        Check.pending("nothing changed", x);
        x.unlink(0, Check.name("e77"));
        Check.is("in place of a free entry", x.make(0, Check.name("x"), false), 3);
        Check.is("size", x.look(0, 2), 1000);
    }

    /** "or there is no free inode". */
    private static void noFreeInode() {
        LogFs x = new LogFs();
        for (int i = 1; i <= 31; i++) {
            Check.is("make " + i, x.make(0, Check.name("n" + i), i % 2 == 0), i);
        }
        Check.is("no inode is left", x.count(2), 0);
        x.sync();
        Check.is("make", x.make(0, Check.name("x"), false), LogFs.NONE);
        Check.is("make", x.make(2, Check.name("x"), true), LogFs.NONE);
        Check.pending("nothing changed", x);
        x.unlink(0, Check.name("n17"));
        Check.is("make again", x.make(0, Check.name("x"), true), 17);
    }

    /** "or not as many free blocks as it takes." */
    private static void noFreeBlock() {
        LogFs x = Disks.withFreeBlocks(0);
        Check.is("the root is 64 bytes long", x.look(0, 2), 64);
        Check.is("a file", x.make(0, Check.name("x"), false), LogFs.NONE);
        Check.is("a directory", x.make(0, Check.name("x"), true), LogFs.NONE);
        Check.pending("nothing changed", x);
        LogFs y = Disks.withFreeBlocks(1);
        Check.is("one is left", y.make(0, Check.name("x"), true), 9);
        Check.is("none is left", y.count(1), 0);
        Check.is("the first entry of a directory", y.make(9, Check.name("x"), false), LogFs.NONE);
    }

    /** "or not as many free blocks as it takes": a new inode takes none, nor does an entry that has room. */
    private static void noFreeBlockIsNeeded() {
        LogFs x = Disks.withFreeBlocks(0);
        x.unlink(0, Check.name("f8"));
        Check.is("in place of a free entry", x.make(0, Check.name("d"), true), 8);
        LogFs y = Disks.withFreeBlocks(1);
        y.make(0, Check.name("x"), false);
        Check.is("no block is left", y.count(1), 0);
        Check.is("behind the last entry", y.make(0, Check.name("y"), false), 10);
    }

    /** "or not as many free blocks as it takes": the eleventh block takes two. */
    private static void oneFreeBlockForAnIndirectAndAnother() {
        LogFs x = Disks.withLongRootAndFreeBlocks(1);
        Check.is("the root is 640 bytes long", x.look(0, 2), 640);
        Check.is("one is left", x.count(1), 1);
        Check.is("make", x.make(0, Check.name("x"), false), LogFs.NONE);
        Check.pending("nothing changed", x);
        LogFs y = Disks.withLongRootAndFreeBlocks(2);
        Check.is("two are left", y.make(0, Check.name("x"), false), 9);
        Check.is("none is left", y.count(1), 0);
        Check.is("find", y.find(0, Check.name("x")), 9);
    }

    /** "or not as many free blocks as it takes": the twelfth block takes but one. */
    private static void oneFreeBlockWithAnIndirectOne() {
        LogFs x = Disks.withLongRootAndFreeBlocks(3);
        for (int i = 81; i <= 88; i++) {
            x.link(0, Check.name("m" + i), 8);
        }
        Check.is("the root is 704 bytes long", x.look(0, 2), 704);
        Check.is("one is left", x.count(1), 1);
        Check.is("make", x.make(0, Check.name("x"), true), 9);
        Check.is("none is left", x.count(1), 0);
    }

    private static void commitsAhead() {
        LogFs x = Disks.withFile();
        Disks.addBlocks(x, 1, 8);
        Check.is("pending", x.count(0), 10);
        Check.is("make", x.make(0, Check.name("a"), false), 2);
        Check.is("ten are not more than ten", x.count(4), 1);
        Check.is("pending", x.count(0), 11);
        Check.is("a refused one", x.make(0, Check.name("a"), false), LogFs.NONE);
        Check.is("no commit for it", x.count(4), 1);
        Check.is("make", x.make(0, Check.name("b"), false), 3);
        Check.is("a commit ahead", x.count(4), 2);
        Check.pending("what came behind it", x, 17, 26);
    }

    /** "IllegalStateException if the power is off". */
    private static void thePowerIsOff() {
        LogFs x = Disks.withoutPower();
        Check.off("make", () -> x.make(0, Check.name("a"), false));
        Check.off("make in none", () -> x.make(77, 0L, true));
    }

    /** "UnsupportedOperationException if it fails." */
    private static void thePowerFails() {
        for (int writes = 0; writes < 24; writes++) {
            LogFs x = Disks.withPending(11);
            x.failAfter(writes);
            Check.powerFails("make", () -> x.make(0, Check.name("a"), false));
            Check.is("the power is off", x.count(5), 1);
            Check.is("mount", x.mount(), writes > 11 ? 11 : 0);
            Check.is("nothing is made", x.find(0, Check.name("a")), LogFs.NONE);
        }
        LogFs y = Disks.withPending(11);
        y.failAfter(24);
        Check.is("the failure is yet to come", y.make(0, Check.name("a"), false), 4);
    }
}
