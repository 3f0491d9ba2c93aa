/** Promise 4: each cause of a false, and each exception, has a method of its own. */
public final class UnlinkTest {
    private static final int[] NO_INODE = {-1, 32, 33, 36, 127, 128, 1000, Integer.MIN_VALUE, Integer.MAX_VALUE};

    public static void main(String[] args) {
        oneOfSeveralLinks();
        allLinksOneByOne();
        theLastLinkOfAnEmptyFile();
        theLastLinkOfALongFile();
        noSuchDirectory();
        noSuchEntry();
        anEntryThatIsGone();
        aDirectoryThatHasEntries();
        aDirectoryThatHasOneEntryAtItsEnd();
        aDirectoryWhoseEntriesAreGone();
        aDirectoryThatNeverHadEntries();
        commitsAhead();
        thePowerIsOff();
        thePowerFails();
        Check.end();
    }

    /** "UNLINK: an entry goes: true". */
    private static void oneOfSeveralLinks() {
        LogFs x = Disks.withFile();
        x.write(1, 0, -1L, 3);
        x.link(0, Check.name("g"), 1);
        x.sync();
        Check.yes("unlink", x.unlink(0, Check.name("f")));
        Check.pending("entry, inode", x, 26, 17);
        Check.is("links", x.look(1, 1), 1);
        Check.is("size stays", x.look(1, 2), 3);
        Check.memory("the entry is free", x, 26, 0, 0, 0, 0, 0, 0, 0, 0, 0, 2, 'g');
        Check.is("the directory stays as long", x.look(0, 2), 16);
        Check.is("entries", x.look(0, 4), 1);
        Check.is("find", x.find(0, Check.name("f")), LogFs.NONE);
        Check.is("find the other", x.find(0, Check.name("g")), 1);
    }

    /** From 200 links to none; the file stays up to the last one. */
    private static void allLinksOneByOne() {
        LogFs x = Disks.withFile();
        x.make(0, Check.name("d"), true);
        x.write(1, 0, -1L, 1);
        Disks.addEntries(x, 0, 1, 100);
        Disks.addEntries(x, 2, 1, 99);
        Check.is("links", x.look(1, 1), 200);
        for (int i = 1; i <= 100; i++) {
            x.unlink(0, Check.name("e" + i));
        }
        for (int i = 1; i <= 98; i++) {
            x.unlink(2, Check.name("e" + i));
        }
        Check.is("links", x.look(1, 1), 2);
        Check.yes("unlink", x.unlink(0, Check.name("f")));
        Check.is("links", x.look(1, 1), 1);
        Check.is("read", x.read(1, 0), 255);
        Check.yes("unlink the last one", x.unlink(2, Check.name("e99")));
        Check.is("type", x.look(1, 0), 0);
        Check.outside("read", () -> x.read(1, 0));
    }

    private static void theLastLinkOfAnEmptyFile() {
        LogFs x = Disks.withFile();
        for (int i = 2; i <= 4; i++) {
            x.make(0, Check.name("n" + i), false);
        }
        x.sync();
        Check.yes("unlink", x.unlink(0, Check.name("n4")));
        Check.pending("entry, inode, not the map", x, 26, 18);
        Check.memory("the inode is all 0", x, 18, 0, 0, 0, 0, 0, 0, 0);
        Check.is("free inodes", x.count(2), 28);
        Check.is("free blocks", x.count(1), 101);
    }

    private static void theLastLinkOfALongFile() {
        LogFs x = Disks.withFile();
        Disks.grow(x, 1, 1000);
        Check.is("free blocks", x.count(1), 84);
        x.sync();
        Check.yes("unlink", x.unlink(0, Check.name("f")));
        Check.pending("entry, map, inode", x, 26, 25, 17);
        Check.is("all its blocks are free", x.count(1), 101);
        Check.memory("the map", x, 25, 2, 255, 7, 0, 0, 0);
        Check.memory("the inode is all 0", x, 17, 16, 0, 0, 0, 0, 0, 0, 0, 0, 0, 0, 0, 0, 0, 0, 0, 0);
        Check.memory("what was in its block stays", x, 27, 0, 7, 7, 7);
        Check.memory("what was in its indirect block stays", x, 37, 0, 38, 39);
    }

    /** "false if there is none". */
    private static void noSuchDirectory() {
        LogFs x = Disks.withFile();
        for (int directory : NO_INODE) {
            Check.no("unlink in " + directory, x.unlink(directory, Check.name("f")));
        }
        Check.no("unlink in a file", x.unlink(1, Check.name("f")));
        Check.no("unlink in a free inode", x.unlink(2, Check.name("f")));
        Check.no("unlink in the last inode", x.unlink(31, Check.name("f")));
        Check.pending("nothing changed", x);
        x.write(1, 0, 0x0266000000000000L, 8);
        Check.no("unlink in a file that looks like a directory", x.unlink(1, Check.name("f")));
    }

    /** "false if there is none". */
    private static void noSuchEntry() {
        LogFs x = Disks.withFile();
        x.link(0, Check.name("1234567"), 1);
        x.make(0, Check.name("d"), true);
        x.make(3, Check.name("in"), false);
        x.sync();
        long[] none = {0L, 1L, -1L, Check.name("g"), Check.name("ff"), Check.name("f\u0000f"), Check.name("f") | 1L,
            Check.name("12345678"), Check.name("1234567") | 1L, Check.name("123456"), Check.name("in")};
        for (long name : none) {
            Check.no("unlink " + name, x.unlink(0, name));
        }
        Check.pending("nothing changed", x);
    }

    /** "false if there is none". */
    private static void anEntryThatIsGone() {
        LogFs x = Disks.withFile();
        x.link(0, Check.name("g"), 1);
        Check.yes("unlink", x.unlink(0, Check.name("f")));
        x.sync();
        Check.no("again", x.unlink(0, Check.name("f")));
        Check.no("no name is not a free entry's", x.unlink(0, 0L));
        Check.pending("nothing changed", x);
        Check.is("links", x.look(1, 1), 1);
    }

    /** "or it is of a directory that has entries." */
    private static void aDirectoryThatHasEntries() {
        LogFs x = Disks.withFile();
        x.make(0, Check.name("d"), true);
        x.make(2, Check.name("a"), false);
        x.make(2, Check.name("b"), true);
        x.sync();
        Check.no("two entries", x.unlink(0, Check.name("d")));
        Check.pending("nothing changed", x);
        x.unlink(2, Check.name("a"));
        Check.no("a directory alone", x.unlink(0, Check.name("d")));
        x.make(2, Check.name("a"), false);
        x.unlink(2, Check.name("b"));
        Check.no("a file alone", x.unlink(0, Check.name("d")));
        Check.is("find", x.find(0, Check.name("d")), 2);
    }

    /** "or it is of a directory that has entries", of many places the last one. */
    private static void aDirectoryThatHasOneEntryAtItsEnd() {
        LogFs x = Disks.withFile();
        x.make(0, Check.name("d"), true);
        Disks.addEntries(x, 2, 1, 125);
        for (int i = 1; i <= 124; i++) {
            x.unlink(2, Check.name("e" + i));
        }
        Check.is("entries", x.look(2, 4), 1);
        Check.no("unlink", x.unlink(0, Check.name("d")));
        x.unlink(2, Check.name("e125"));
        Check.yes("unlink", x.unlink(0, Check.name("d")));
        Check.is("free blocks", x.count(1), 101);
    }

    /** "or it is of a directory that has entries": free ones are none. */
    private static void aDirectoryWhoseEntriesAreGone() {
        LogFs x = Disks.withFile();
        x.make(0, Check.name("d"), true);
        x.make(2, Check.name("a"), false);
        x.unlink(2, Check.name("a"));
        x.sync();
        Check.is("size stays", x.look(2, 2), 8);
        Check.yes("unlink", x.unlink(0, Check.name("d")));
        Check.pending("entry, map, inode", x, 26, 25, 17);
        Check.is("type", x.look(2, 0), 0);
        Check.is("free blocks", x.count(1), 101);
    }

    private static void aDirectoryThatNeverHadEntries() {
        LogFs x = Disks.withFile();
        x.make(0, Check.name("d"), true);
        x.sync();
        Check.yes("unlink", x.unlink(0, Check.name("d")));
        Check.pending("entry, inode", x, 26, 17);
        Check.is("find", x.find(0, Check.name("d")), LogFs.NONE);
        Check.is("free inodes", x.count(2), 30);
    }

    private static void commitsAhead() {
        LogFs x = new LogFs();
        x.make(0, Check.name("f"), false);
        x.make(0, Check.name("d"), true);
        x.make(2, Check.name("in"), false);
        x.sync();
        Disks.addBlocks(x, 1, 9);
        Check.is("pending", x.count(0), 11);
        Check.no("a refused one", x.unlink(0, Check.name("g")));
        Check.no("a refused directory", x.unlink(0, Check.name("d")));
        Check.is("no commit for it", x.count(4), 1);
        Check.yes("unlink", x.unlink(0, Check.name("f")));
        Check.is("a commit ahead", x.count(4), 2);
        Check.pending("what came behind it", x, 26, 25, 17);
    }

    /** "IllegalStateException if the power is off". */
    private static void thePowerIsOff() {
        LogFs x = Disks.withoutPower();
        Check.off("unlink", () -> x.unlink(0, Check.name("f")));
        Check.off("unlink none", () -> x.unlink(-1, 0L));
    }

    /** "UnsupportedOperationException if it fails." */
    private static void thePowerFails() {
        for (int writes = 0; writes < 24; writes++) {
            LogFs x = Disks.withPending(11);
            x.failAfter(writes);
            Check.powerFails("unlink", () -> x.unlink(0, Check.name("f")));
            Check.is("the power is off", x.count(5), 1);
            Check.is("mount", x.mount(), writes > 11 ? 11 : 0);
            Check.is("the entry is there", x.find(0, Check.name("f")), 1);
        }
        LogFs y = Disks.withPending(11);
        y.failAfter(24);
        Check.yes("the failure is yet to come", y.unlink(0, Check.name("f")));
    }
}
