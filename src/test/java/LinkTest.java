/** Promise 3: each cause of a false, and each exception, has a method of its own. */
public final class LinkTest {
    private static final int[] NO_INODE = {-1, 32, 33, 36, 127, 128, 1000, Integer.MIN_VALUE, Integer.MAX_VALUE};

    public static void main(String[] args) {
        ordinary();
        noSuchFile();
        noSuchDirectory();
        noSuchName();
        theNameIsTaken();
        theDirectoryWouldBeTooLong();
        theFileHas200Links();
        noFreeBlock();
        noFreeBlockIsNeeded();
        oneFreeBlockForAnIndirectAndAnother();
        oneFreeBlockWithAnIndirectOne();
        commitsAhead();
        thePowerIsOff();
        thePowerFails();
        Check.end();
    }

    /** "LINK: one more entry for a file: true". */
    private static void ordinary() {
        LogFs x = Disks.withFile();
        x.make(0, Check.name("d"), true);
        for (int i = 3; i <= 5; i++) {
            x.make(0, Check.name("n" + i), false);
        }
        x.sync();
        Check.yes("link", x.link(0, Check.name("g"), 5));
        Check.pending("inode, entry, directory", x, 18, 26, 17);
        Check.is("links", x.look(5, 1), 2);
        Check.memory("the entry", x, 26, 40, 6, 'g', 0, 0, 0, 0, 0, 0);
        x.sync();
        Check.yes("link into d", x.link(2, Check.name("f"), 1));
        Check.pending("with a block for it", x, 17, 25, 27);
        Check.is("find", x.find(2, Check.name("f")), 1);
        x.unlink(0, Check.name("n3"));
        x.sync();
        Check.yes("link", x.link(0, Check.name("h"), 4));
        Check.pending("in place of a free entry", x, 18, 26);
        Check.memory("the entry", x, 26, 16, 5, 'h', 0);
    }

    /** "false if there is no such file". */
    private static void noSuchFile() {
        LogFs x = Disks.withFile();
        x.make(0, Check.name("d"), true);
        x.make(0, Check.name("g"), false);
        x.unlink(0, Check.name("g"));
        x.sync();
        for (int inode : NO_INODE) {
            Check.no("link of " + inode, x.link(0, Check.name("a"), inode));
        }
        Check.no("the root", x.link(0, Check.name("a"), 0));
        Check.no("a directory", x.link(0, Check.name("a"), 2));
        Check.no("a directory in itself", x.link(2, Check.name("a"), 2));
        Check.no("a file that is gone", x.link(0, Check.name("a"), 3));
        Check.no("the last inode, which is free", x.link(0, Check.name("a"), 31));
        Check.pending("nothing changed", x);
        for (int inode = 3; inode <= 31; inode++) {
            x.make(0, Check.name("n" + inode), false);
        }
        Check.yes("the last inode", x.link(0, Check.name("a"), 31));
    }

    /** "directory". */
    private static void noSuchDirectory() {
        LogFs x = Disks.withFile();
        for (int directory : NO_INODE) {
            Check.no("link in " + directory, x.link(directory, Check.name("a"), 1));
        }
        Check.no("link in a file", x.link(1, Check.name("a"), 1));
        Check.no("link in a free inode", x.link(2, Check.name("a"), 1));
        Check.no("link in the last inode", x.link(31, Check.name("a"), 1));
        Check.pending("nothing changed", x);
        Check.is("links", x.look(1, 1), 1);
    }

    /** "or name". */
    private static void noSuchName() {
        LogFs x = Disks.withFile();
        long[] none = {0L, 1L, -1L, Check.name("12345678"), Check.name("a\u0000b"), Check.name("a b"),
            Check.name("\u007f"), Check.name("\u0000a")};
        for (long name : none) {
            Check.no("link as " + name, x.link(0, name, 1));
        }
        Check.pending("nothing changed", x);
        Check.is("links", x.look(1, 1), 1);
    }

    /** "it is taken". */
    private static void theNameIsTaken() {
        LogFs x = Disks.withFile();
        x.make(0, Check.name("d"), true);
        x.make(0, Check.name("g"), false);
        x.sync();
        Check.no("a directory's name", x.link(0, Check.name("d"), 1));
        Check.no("another file's name", x.link(0, Check.name("g"), 1));
        Check.no("its own name", x.link(0, Check.name("f"), 1));
        Check.pending("nothing changed", x);
        Check.yes("its own name elsewhere", x.link(2, Check.name("f"), 1));
        Check.no("now it is taken there", x.link(2, Check.name("f"), 3));
    }

    /** "the directory would be too long". */
    private static void theDirectoryWouldBeTooLong() {
        LogFs x = Disks.withFile();
        Disks.addEntries(x, 0, 1, 123);
        Check.yes("the entry to 1000 bytes", x.link(0, Check.name("last"), 1));
        Check.is("size", x.look(0, 2), 1000);
        x.sync();
        Check.no("too long", x.link(0, Check.name("x"), 1));
        Check.pending("nothing changed", x);
        Check.is("links", x.look(1, 1), 125);
        x.unlink(0, Check.name("e77"));
        Check.yes("in place of a free entry", x.link(0, Check.name("x"), 1));
        Check.is("find", x.find(0, Check.name("x")), 1);
    }

    /** "the file has 200 links". */
    private static void theFileHas200Links() {
        LogFs x = Disks.withFile();
        x.make(0, Check.name("d"), true);
        x.make(0, Check.name("g"), false);
        Disks.addEntries(x, 0, 1, 99);
        Disks.addEntries(x, 2, 1, 99);
        Check.is("links", x.look(1, 1), 199);
        Check.yes("the last link", x.link(2, Check.name("last"), 1));
        Check.is("links", x.look(1, 1), 200);
        Check.memory("its byte", x, 17, 17, 200);
        x.sync();
        Check.no("one too many", x.link(2, Check.name("more"), 1));
        Check.pending("nothing changed", x);
        Check.yes("another file", x.link(2, Check.name("more"), 3));
        x.unlink(0, Check.name("f"));
        Check.is("links", x.look(1, 1), 199);
        Check.yes("one again", x.link(2, Check.name("again"), 1));
    }

    /** "or there are not as many free blocks." */
    private static void noFreeBlock() {
        LogFs x = Disks.withFreeBlocks(0);
        Check.no("link", x.link(0, Check.name("x"), 1));
        Check.pending("nothing changed", x);
        Check.is("links", x.look(1, 1), 1);
        LogFs y = Disks.withFreeBlocks(1);
        Check.yes("one is left", y.link(0, Check.name("x"), 1));
        Check.is("none is left", y.count(1), 0);
    }

    /** "or there are not as many free blocks." */
    private static void noFreeBlockIsNeeded() {
        LogFs x = Disks.withFreeBlocks(0);
        x.unlink(0, Check.name("f8"));
        Check.yes("in place of a free entry", x.link(0, Check.name("x"), 1));
        LogFs y = Disks.withFreeBlocks(1);
        y.link(0, Check.name("x"), 1);
        Check.is("no block is left", y.count(1), 0);
        Check.yes("behind the last entry", y.link(0, Check.name("y"), 1));
    }

    /** "or there are not as many free blocks": the eleventh block takes two. */
    private static void oneFreeBlockForAnIndirectAndAnother() {
        LogFs x = Disks.withLongRootAndFreeBlocks(1);
        Check.is("one is left", x.count(1), 1);
        Check.no("link", x.link(0, Check.name("x"), 8));
        Check.pending("nothing changed", x);
        LogFs y = Disks.withLongRootAndFreeBlocks(2);
        Check.yes("two are left", y.link(0, Check.name("x"), 8));
        Check.is("none is left", y.count(1), 0);
    }

    /** "or there are not as many free blocks": the twelfth block takes but one. */
    private static void oneFreeBlockWithAnIndirectOne() {
        LogFs x = Disks.withLongRootAndFreeBlocks(3);
        for (int i = 81; i <= 88; i++) {
            x.link(0, Check.name("m" + i), 8);
        }
        Check.is("one is left", x.count(1), 1);
        Check.yes("link", x.link(0, Check.name("x"), 8));
        Check.is("none is left", x.count(1), 0);
    }

    private static void commitsAhead() {
        LogFs x = Disks.withFile();
        Disks.addBlocks(x, 1, 9);
        Check.is("pending", x.count(0), 11);
        Check.no("a refused one", x.link(0, Check.name("f"), 1));
        Check.is("no commit for it", x.count(4), 1);
        Check.yes("link", x.link(0, Check.name("g"), 1));
        Check.is("a commit ahead", x.count(4), 2);
        Check.pending("what came behind it", x, 17, 26);
    }

    /** "IllegalStateException if the power is off". */
    private static void thePowerIsOff() {
        LogFs x = Disks.withoutPower();
        Check.off("link", () -> x.link(0, Check.name("a"), 1));
        Check.off("link of none", () -> x.link(-1, 0L, -1));
    }

    /** "UnsupportedOperationException if it fails." */
    private static void thePowerFails() {
        for (int writes = 0; writes < 24; writes++) {
            LogFs x = Disks.withPending(11);
            x.failAfter(writes);
            Check.powerFails("link", () -> x.link(0, Check.name("a"), 1));
            Check.is("the power is off", x.count(5), 1);
            Check.is("mount", x.mount(), writes > 11 ? 11 : 0);
            Check.is("what was ahead is whole or not at all", x.read(1, 0), writes > 11 ? 9 : 7);
            Check.is("the link is not", x.look(1, 1), 1);
        }
        LogFs y = Disks.withPending(11);
        y.failAfter(24);
        Check.yes("the failure is yet to come", y.link(0, Check.name("a"), 1));
    }
}
